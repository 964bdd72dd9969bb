section BK
variable {kd : gKd} {ln : gLn} {M : gM} {o q z y n m w b k t : Int}
theorem sq_e {p : Int → Prop} {a : BitVec 64} {x : Int} (hN : mN n) (h : sq n a p) (ha : a = 0) (hx : mOn n x) : ¬ p x := fun g => by
  have e := mSq hN hx
  have := (h x.toNat (by omega)).mpr (by rw [show ((x.toNat : Nat) : Int) = x by omega]; exact ⟨hx, g⟩)
  rw [ha] at this
  simp at this
/-- a loop over the squares of a set, from the lowest on -/
theorem sq_loop {W : Nat → BitVec 64 → gM → Prop} {I : (Int → Prop) → gM → Prop} (hN : mN n) (hend : ∀ j M p, (∀ x, mOn n x → ¬ p x) → I p M → W (j + 1) 0 M) (hstep : ∀ (j : Nat) (a : BitVec 64) (M : gM) (p : Int → Prop) (i : Nat), a ≠ 0 → i < 64 → a.getLsbD i = true → (∀ x, x < i → a.getLsbD x = false) → mOn n i → p i → (∀ x, mOn n x → p x → (i : Int) ≤ x) → I p M → (∀ M', I (fun x => p x ∧ x ≠ i) M' → W j (a &&& (a - 1)) M') → W (j + 1) a M) (a : BitVec 64) (p : Int → Prop) (M : gM) (ha : sq n a p) (hI : I p M) : W 65 a M := by
  have loop : ∀ (j s : Nat) (a : BitVec 64) (p : Int → Prop) (M : gM), sq n a p → I p M → (∀ x, mOn n x → p x → (s : Int) ≤ x) → s ≤ 64 → 64 < j + s → W j a M := by
    intro j
    induction j with
    | zero => intro s a p M h1 h2 h3 h4 h5; omega
    | succ j ih =>
      intro s a p M h1 h2 h3 h4 h5
      by_cases g : a = 0
      · have := hend j M p (fun x hx => sq_e hN h1 g hx) h2
        rw [g]
        exact this
      · obtain ⟨i, i1, i2, i3, i4, i5, i6, i7⟩ := sq_low h1 g
        have := h3 i i4 i5
        refine hstep j a M p i g i1 i2 i3 i4 i5 i6 h2 (fun M' h => ih (i + 1) _ _ M' i7 h (fun x hx hp => ?_) (by omega) (by omega))
        have := i6 x hx hp.1
        have := hp.2
        omega
  exact loop 65 0 a p M ha hI (fun x hx _ => hx.1) (by omega) (by omega)
theorem gcmp_n {a : BitVec 64} (h : a ≠ 0) : ¬ gcmp a (0 : BitVec 64) = 0 := fun g => h (gcmp_0.mp g)
theorem gcmp_z : gcmp (0 : BitVec 64) (0 : BitVec 64) = 0 := gcmp_0.mpr rfl
theorem kb_old {L R R' : List Nat} (h : inL n m (L ++ R) w b k t) : inL n m (L ++ (R ++ R')) w b k t := by
  unfold inL at *
  rw [← List.append_assoc]
  exact List.mem_append.mpr (Or.inl h)
theorem kb_R {R R' : List Nat} {v : Int} (h : ∀ K ∈ R, mDk n m K = v) (h' : ∀ K ∈ R', mDk n m K = v) : ∀ K ∈ R ++ R', mDk n m K = v := fun K hK => (List.mem_append.mp hK).elim (h K) (h' K)
/-- the cell of a position is settled -/
theorem sX3_cs {post : gM → Prop} {far : Int} {L : List Nat} (hN : mN n) (hC : mkC n m kd ln M o q z y) (hS : mkS n m M y z L) (hw : mOn n w) (hb : mOn n b) (hk : mOn n k) (ht : 0 ≤ t ∧ t ≤ 1) (hf : 0 ≤ far ∧ far ≤ 126) (hd : mLg n m w b k t → ¬ inL n m L w b k t → mDs n m w b k t = far) (h : ∀ M' R, mkS n m M' y z (L ++ R) → mkX y z M M' → (∀ K ∈ R, mDk n m K = far) → (mLg n m w b k t → inL n m (L ++ R) w b k t) → post M') : kd (M y 2 (-1)) = 2 ∧ wX2_cellOf kd ln (fun c M1 => rng c → wX3_settle kd ln post y c far M1) (M y 2 (-1)) w b k t M := by
  have hC0 := hC
  obtain ⟨⟨⟨a1, a2, a3, a4⟩, ⟨b1, b2, b3, b4⟩, -, -⟩, -, ⟨f1, f2, f3, f4, f5⟩, -⟩ := hC0
  rw [f2]
  refine ⟨b4, sX2_cellOf hN a1 a2 a3 (by omega) b1 b2 b3 hw hb hk ht (fun hv _ => sX3_settle hN hC hS hw hb hk ht hv hf hd h) (fun hv _ => sX3_settle_no ?_)⟩
  exact h M [] (by rw [List.append_nil]; exact hS) mkX.rf (fun K hK => absurd hK (List.not_mem_nil)) (fun g => absurd (lg_v g) hv)
theorem sX3_takeKingBack {post : gM → Prop} {L : List Nat} {d : Nat} (hN : mN n) (hC : mkC n m kd ln M o q z y) (hS : mkS n m M y z L) (hF : mkF n m L d) (hd : d ≤ 125) (hw : mOn n w) (hb : mOn n b) (hk : mOn n k) (hA : mAtD n m d w b k 1) (h : ∀ M' R, mkS n m M' y z (L ++ R) → mkX y z M M' → (∀ K ∈ R, mDk n m K = (d : Int) + 1) → (∀ x, mOn n x → mWk n x b k w → mLg n m x b k 0 → inL n m (L ++ R) x b k 0) → post M') : wX3_takeKingBack kd ln post y w b k ((d : Int) + 1) M := by
  have hl := mAtD_lg hA
  have hC0 := hC
  obtain ⟨⟨⟨a1, a2, a3, a4⟩, -, -, -⟩, -, ⟨f1, f2, f3, f4, f5⟩, -⟩ := hC0
  unfold wX3_takeKingBack
  rw [f1]
  refine ⟨a3, sX0_whiteTargets hN a1 a2 hw hb hk fun c hc => ⟨65, sq_loop (I := fun p M' => ∃ R, mkS n m M' y z (L ++ R) ∧ mkX y z M M' ∧ (∀ K ∈ R, mDk n m K = (d : Int) + 1) ∧ (∀ x, mOn n x → p x → mWk n w b k x) ∧ ∀ x, mOn n x → mWk n w b k x → mLg n m x b k 0 → p x ∨ inL n m (L ++ R) x b k 0) hN ?_ ?_ c _ M hc ⟨[], by rw [List.append_nil]; exact hS, mkX.rf, fun K hK => absurd hK (List.not_mem_nil), fun _ _ g => g, fun x _ g _ => Or.inl g⟩⟩⟩
  · rintro j M' p hp ⟨R, r1, r2, r3, r4, r5⟩
    unfold wX3_takeKingBack_12
    refine ⟨fun _ => h M' R r1 r2 r3 (fun x hx g1 g2 => (r5 x hx ⟨mNx_sym.mp g1.1, fun g => g2.2.2.2.1 (mNx_sym.mp g), g2.1, g2.2.1⟩ g2).resolve_left (hp x hx)), fun g => absurd gcmp_z g⟩
  · rintro j a M' p i ha i1 i2 i3 hi pi imin ⟨R, r1, r2, r3, r4, r5⟩ nxt
    unfold wX3_takeKingBack_12
    refine ⟨fun g => absurd (gcmp_0.mp g) ha, fun _ => ?_⟩
    have wk := r4 i hi pi
    have cs := sX3_cs (t := 0) (far := (d : Int) + 1) (post := fun M15 => ∀ v18 : BitVec 64, v18 = a &&& (a - (1 : BitVec 64)) → wX3_takeKingBack_12 kd ln post y w b k ((d : Int) + 1) j v18 M15) hN (hC.ch r2) r1 hi hb hk (by omega) (by omega) (fun g1 g2 => mDs_at (e := d + 1) (mAtD_w g1 (noBl hN (hF.ap r3) hi hb hk (by omega) g2) (Or.inl ⟨w, hw, mWk_back hl wk.1, hA⟩))) (fun M'' R' s1 s2 s3 s4 v ev => ?_)
    · exact ⟨cs.1, sX6_lowest i1 i2 i3 fun _ => cs.2⟩
    · rw [ev]
      rw [List.append_assoc] at s1 s4
      refine nxt M'' ⟨R ++ R', s1, r2.tr s2, kb_R r3 s3, fun x hx g => r4 x hx g.1, fun x hx g1 g2 => ?_⟩
      rcases r5 x hx g1 g2 with g3 | g3
      · by_cases g4 : x = i
        · subst g4; exact Or.inr (s4 g2)
        · exact Or.inl ⟨g3, g4⟩
      · exact Or.inr (kb_old g3)
theorem sX3_takeManBack_41 {post : gM → Prop} {L : List Nat} {d : Nat} {c : BitVec 64} {P : Int → Prop} (hN : mN n) (hC : mkC n m kd ln M o q z y) (hS : mkS n m M y z L) (hF : mkF n m L d) (hd : d ≤ 125) (hw : mOn n w) (hb : mOn n b) (hk : mOn n k) (hA : mAtD n m d w b k 1) (hc : sq n c P) (hP : ∀ x, mOn n x → P x → mMn n m w b x k) (h : ∀ M' R, mkS n m M' y z (L ++ R) → mkX y z M M' → (∀ K ∈ R, mDk n m K = (d : Int) + 1) → (∀ x, mOn n x → P x → mLg n m w b x 0 → inL n m (L ++ R) w b x 0) → post M') : wX3_takeManBack_35 kd ln post y w b k ((d : Int) + 1) c M := by
  have hl := mAtD_lg hA
  unfold wX3_takeManBack_35
  refine ⟨65, sq_loop (I := fun p M' => ∃ R, mkS n m M' y z (L ++ R) ∧ mkX y z M M' ∧ (∀ K ∈ R, mDk n m K = (d : Int) + 1) ∧ (∀ x, mOn n x → p x → P x) ∧ ∀ x, mOn n x → P x → mLg n m w b x 0 → p x ∨ inL n m (L ++ R) w b x 0) hN ?_ ?_ c _ M hc ⟨[], by rw [List.append_nil]; exact hS, mkX.rf, fun K hK => absurd hK (List.not_mem_nil), fun _ _ g => g, fun x _ g _ => Or.inl g⟩⟩
  · rintro j M' p hp ⟨R, r1, r2, r3, r4, r5⟩
    unfold wX3_takeManBack_41
    exact ⟨fun _ => h M' R r1 r2 r3 (fun x hx g1 g2 => (r5 x hx g1 g2).resolve_left (hp x hx)), fun g => absurd gcmp_z g⟩
  · rintro j a M' p i ha i1 i2 i3 hi pi imin ⟨R, r1, r2, r3, r4, r5⟩ nxt
    unfold wX3_takeManBack_41
    refine ⟨fun g => absurd (gcmp_0.mp g) ha, fun _ => ?_⟩
    have wk := hP i hi (r4 i hi pi)
    have cs := sX3_cs (t := 0) (far := (d : Int) + 1) (post := fun M15 => ∀ v18 : BitVec 64, v18 = a &&& (a - (1 : BitVec 64)) → wX3_takeManBack_41 kd ln post y w b k ((d : Int) + 1) j v18 M15) hN (hC.ch r2) r1 hw hb hi (by omega) (by omega) (fun g1 g2 => mDs_at (e := d + 1) (mAtD_w g1 (noBl hN (hF.ap r3) hw hb hi (by omega) g2) (Or.inr (Or.inl ⟨k, hk, wk, hA⟩)))) (fun M'' R' s1 s2 s3 s4 v ev => ?_)
    · exact ⟨cs.1, sX6_lowest i1 i2 i3 fun _ => cs.2⟩
    · rw [ev]
      rw [List.append_assoc] at s1 s4
      refine nxt M'' ⟨R ++ R', s1, r2.tr s2, kb_R r3 s3, fun x hx g => r4 x hx g.1, fun x hx g1 g2 => ?_⟩
      rcases r5 x hx g1 g2 with g3 | g3
      · by_cases g4 : x = i
        · subst g4; exact Or.inr (s4 g2)
        · exact Or.inl ⟨g3, g4⟩
      · exact Or.inr (kb_old g3)
theorem sX3_takeManBack {post : gM → Prop} {L : List Nat} {d : Nat} (hN : mN n) (hm : 0 ≤ m ∧ m ≤ 2) (hC : mkC n m kd ln M o q z y) (hS : mkS n m M y z L) (hF : mkF n m L d) (hd : d ≤ 125) (hw : mOn n w) (hb : mOn n b) (hk : mOn n k) (hA : mAtD n m d w b k 1) (h : ∀ M' R, mkS n m M' y z (L ++ R) → mkX y z M M' → (∀ K ∈ R, mDk n m K = (d : Int) + 1) → (∀ x, mOn n x → mMn n m w b x k → mLg n m w b x 0 → inL n m (L ++ R) w b x 0) → post M') : wX3_takeManBack kd ln post y w b k ((d : Int) + 1) M := by
  have hl := mAtD_lg hA
  have hC0 := hC
  obtain ⟨⟨⟨a1, a2, a3, a4⟩, -, -, -⟩, -, ⟨f1, f2, f3, f4, f5⟩, -⟩ := hC0
  unfold wX3_takeManBack
  rw [f1, f4]
  refine fun _ => ⟨fun g => ⟨a3, sX0_glides hN a1 a2 (by omega) hw hb hk fun c hc => sX3_takeManBack_41 hN hC hS hF hd hw hb hk hA hc (fun x hx g2 => mMn_sym g g2 ⟨fun e => hl.2.1 e.symm, fun e => hl.2.2.1 e.symm⟩) (fun M' R h1 h2 h3 h4 => h M' R h1 h2 h3 (fun x hx g1 g2 => h4 x hx (mMn_sym g g1 ⟨fun e => g2.2.1 e.symm, fun e => g2.2.2.1 e.symm⟩) g2))⟩, fun g => ⟨a3, ?_⟩⟩
  subst g
  refine sX0_pawnSources hN a2 hw hb hk hl fun c hc => sX3_takeManBack_41 hN hC hS hF hd hw hb hk hA hc (fun x hx g2 => g2.1) (fun M' R h1 h2 h3 h4 => h M' R h1 h2 h3 (fun x hx g1 g2 => h4 x hx ⟨g1, fun e => g2.2.1 e.symm, fun e => g2.2.2.1 e.symm, (g2.2.2.2.2.1 rfl).1⟩ g2))
end BK
