section WL
variable {kd : gKd} {ln : gLn} {M : gM} {o q z y n m w b k t : Int}
/-- all that lead to K are settled -/
def prd (n m : Int) (d : Nat) (L : List Nat) (K : Nat) : Prop := ∀ w b k t, mOn n w → mOn n b → mOn n k → mAtD n m (d + 1) w b k t → mv n m w b k t (kW n K) (kB n K) (kK n K) (kT K) → inL n m L w b k t
theorem prd_ap {d K : Nat} {L R : List Nat} (h : prd n m d L K) : prd n m d (L ++ R) K := fun w b k t h1 h2 h3 h4 h5 => List.mem_append.mpr (Or.inl (h w b k t h1 h2 h3 h4 h5))
theorem sX3_work_50 {post : gM → Prop} {k31 : Int → Int → gM → Prop} {z0 z1 : Int} {L : List Nat} {d at0 : Nat} (hN : mN n) (hm : 0 ≤ m ∧ m ≤ 2) (hC : mkC n m kd ln M o q z y) (hF : mkF n m L d) (hd : d ≤ 125) (hD : ∀ (i : Nat) (hi : i < L.length), at0 ≤ i → mDk n m L[i] = d) (h : ∀ M' R, mkS n m M' y z (L ++ R) → mkX y z M M' → (∀ K ∈ R, mDk n m K = (d : Int) + 1) → (∀ (i : Nat) (hi : i < L.length), at0 ≤ i → prd n m d (L ++ R) L[i]) → k31 L.length ((d : Int) + 1) M') :
    ∀ (j x : Nat) (M' : gM) (R : List Nat), at0 ≤ x → x ≤ L.length → mkS n m M' y z (L ++ R) → mkX y z M M' → (∀ K ∈ R, mDk n m K = (d : Int) + 1) → (∀ (i : Nat) (hi : i < L.length), at0 ≤ i → i < x → prd n m d (L ++ R) L[i]) → L.length - x < j → wX3_work_50 kd ln post y z0 z1 k31 j x d L.length M' := by
  have hA := mAl3_r hN
  intro j
  induction j with
  | zero => intro x M' R h1 h2 h3 h4 h5 h6 h7; omega
  | succ j ih =>
    intro x M' R h1 h2 h3 h4 h5 h6 h7
    have hC' := hC.ch h4
    have f5 : ln y 5 = ((cN (cPb n m) (mAl3 n).toNat : Nat) : Int) := hC'.2.2.1.2.2.2.2
    have csz := cN_le (cPb n m) (mAl3 n).toNat
    have len := nodup_len (p := cPb n m) (N := (mAl3 n).toNat) h3.2.1 (fun K hK => ⟨by have := (h3.1 K hK).1; omega, cPb_t.mpr (h3.1 K hK).2.1⟩)
    rw [List.length_append] at len
    unfold wX3_work_50
    rw [f5]
    refine ⟨by omega, by omega, fun g => ?_, fun g => ?_⟩
    · have : x = L.length := by omega
      subst this
      exact h M' R h3 h4 h5 (fun i hi g2 => h6 i hi g2 hi)
    · have hx : x < L.length := by omega
      have q5 := h3.2.2.2.2 x (by rw [List.length_append]; omega)
      rw [List.getElem_append_left hx] at q5
      have inL' : L[x] ∈ L ++ R := List.mem_append.mpr (Or.inl (List.getElem_mem hx))
      obtain ⟨k1, k2, k3⟩ := h3.1 _ inL'
      have cd := cell_dec hN k1 k2
      rw [q5]
      refine ⟨by omega, by omega, fun _ => ?_⟩
      refine sX3_goBackFrom hN hm hC' h3 (hF.ap h5) hd k1 k2 (hD x hx h1) (fun M'' R' s1 s2 s3 s4 => ?_)
      rw [List.append_assoc] at s1 s4
      refine ih (x + 1) M'' (R ++ R') (by omega) (by omega) s1 (h4.tr s2) (kb_R h5 s3) (fun i hi g2 g3 => ?_) (by omega)
      rcases Nat.lt_or_eq_of_le (Nat.lt_succ_iff.mp g3) with g4 | g4
      · rw [← List.append_assoc]
        exact prd_ap (h6 i hi g2 g4)
      · subst g4
        exact s4
theorem lst_at {K : Nat} (hN : mN n) (hK : (K : Int) < mAl3 n) (hP : cP n m K) {d : Nat} (h : mDk n m K = d) : mAtD n m d (kW n K) (kB n K) (kK n K) (kT K) := by
  unfold mDk at h
  rcases mDs_c n m (kW n K) (kB n K) (kK n K) (kT K) with ⟨e, q1, q2⟩ | ⟨q1, q2⟩
  · have : e = d := by omega
    rw [← this]; exact q1
  · omega
/-- what leads to a settled one is settled -/
theorem prd_use {K : Nat} {d at0 : Nat} {L R : List Nat} (hN : mN n) (hK : (K : Int) < mAl3 n) (hP : cP n m K) (hA : mAtD n m (d + 1) (kW n K) (kB n K) (kK n K) (kT K)) (hall : ∀ K : Nat, (K : Int) < mAl3 n → cP n m K → 0 ≤ mDk n m K → mDk n m K ≤ d → K ∈ L) (hlo : ∀ (i : Nat) (hi : i < L.length), i < at0 → mDk n m L[i] < d) (hpr : ∀ (i : Nat) (hi : i < L.length), at0 ≤ i → prd n m d (L ++ R) L[i]) {w' b' k' t' : Int} (hw' : mOn n w') (hb' : mOn n b') (hk' : mOn n k') (ht' : 0 ≤ t' ∧ t' ≤ 1) (hA' : mAtD n m d w' b' k' t') (hmv : mv n m (kW n K) (kB n K) (kK n K) (kT K) w' b' k' t') : K ∈ L ++ R := by
  obtain ⟨p1, p2, p3, p4, p5, p6⟩ := key_pos hN hK hP
  obtain ⟨K2, k1, k2, k3, k4, k5, g, hg, g1, g2, g3⟩ := lst_cP hN hw' hb' hk' ht' (mAtD_lg hA')
  have e := mDs_at hA'
  have hm2 := hall K2 k2 k3 (by omega) (by omega)
  obtain ⟨i, hi, ei⟩ := List.getElem_of_mem hm2
  have ai : at0 ≤ i := by
    rcases Nat.lt_or_ge i at0 with g4 | g4
    · have := hlo i hi g4
      rw [ei] at this
      omega
    · exact g4
  have pr := hpr i hi ai
  rw [ei] at pr
  have m2 := im_mv (g := g) hN hg p5 p1 p2 p3 hw' hb' hk' hmv
  rw [← g1, ← g2, ← g3, ← k4] at m2
  have := pr _ _ _ _ (im_on hN p1) (im_on hN p2) (im_on hN p3) ((im_AtD hN hg p1 p2 p3).mpr hA) m2
  unfold inL at this
  rw [lst_im hN p1 p2 p3 hg, p6, Int.toNat_natCast] at this
  exact this
/-- a promotion that decides -/
theorem prV_at {K : Nat} {d : Nat} (hN : mN n) (hK : (K : Int) < mAl3 n) (hP : cP n 2 K) (ht : kT K = 0) (hA : mAtD n 2 (d + 1) (kW n K) (kB n K) (kK n K) 0) (hp : mPr n 2 (kW n K) (kB n K) (kK n K)) (h : mAtD n 0 d (kW n K) (kB n K) (kK n K + n) 1 ∨ mAtD n 1 d (kW n K) (kB n K) (kK n K + n) 1) : prV n K = d := by
  have lg := mAtD_lg hA
  have no : ∀ e : Nat, e < d → ¬ mPq n e (kW n K) (kB n K) (kK n K + n) := fun e he g => hA.2 (e + 1) (by omega) (mD_white.mpr (Or.inr ⟨lg, Or.inr (Or.inr ⟨hp, g⟩)⟩))
  have no0 : ∀ e : Nat, mAtD n 0 e (kW n K) (kB n K) (kK n K + n) 1 → d ≤ e := fun e g => by
    rcases Nat.lt_or_ge e d with g2 | g2
    · exact absurd (mPq_D.mpr (Or.inl g.1)) (no e g2)
    · exact g2
  have no1 : ∀ e : Nat, mAtD n 1 e (kW n K) (kB n K) (kK n K + n) 1 → d ≤ e := fun e g => by
    rcases Nat.lt_or_ge e d with g2 | g2
    · exact absurd (mPq_D.mpr (Or.inr g.1)) (no e g2)
    · exact g2
  unfold prV lsD
  have c0 := mDs_c n 0 (kW n K) (kB n K) (kK n K + n) 1
  have c1 := mDs_c n 1 (kW n K) (kB n K) (kK n K + n) 1
  rcases h with h | h
  · have e0 := mDs_at h
    rw [e0]
    rcases c1 with ⟨e, q1, q2⟩ | ⟨q1, q2⟩
    · have := no1 e q1
      rw [if_neg (by omega)]; omega
    · rw [if_pos (Or.inr q2)]; omega
  · have e1 := mDs_at h
    rw [e1]
    rcases c0 with ⟨e, q1, q2⟩ | ⟨q1, q2⟩
    · have := no0 e q1
      rw [if_neg (by omega)]; omega
    · rw [if_pos (Or.inl q2)]; omega
/-- the layers of the class -/
theorem sX3_work_31 {post : gM → Prop} {z0 z1 cap : Int} {np : Nat} {pk : Nat → Nat} {pf : Nat → Int} (hN : mN n) (hm : 0 ≤ m ∧ m ≤ 2) (hC : mkC n m kd ln M o q z y) (hl : chL ln y cap) (hcap : (np : Int) ≤ cap ∧ cap ≤ 65536) (hc : chS n m M y np pk pf) (hall : ∀ K, prK n m K → ∃ i, i < np ∧ pk i = K) (h : ∀ M', mkX y z M M' → tbV n m (M' z) (fun K => mDk n m K) → post M') :
    ∀ (j d at0 : Nat) (M' : gM) (L : List Nat), d ≤ 126 → mkS n m M' y z L → mkX y z M M' → at0 ≤ L.length → (∀ (i : Nat) (hi : i < L.length), i < at0 → mDk n m L[i] < d) → (∀ (i : Nat) (hi : i < L.length), at0 ≤ i → mDk n m L[i] = d) → (∀ K : Nat, (K : Int) < mAl3 n → cP n m K → 0 ≤ mDk n m K → mDk n m K < d → K ∈ L) → (∀ K : Nat, (K : Int) < mAl3 n → cP n m K → mDk n m K = d → K ∈ L ∨ ∃ e, d = e + 1 ∧ kT K = 0 ∧ mPr n m (kW n K) (kB n K) (kK n K) ∧ (mAtD n 0 e (kW n K) (kB n K) (kK n K + n) 1 ∨ mAtD n 1 e (kW n K) (kB n K) (kK n K + n) 1)) → 126 - d < j → wX3_work_31 kd ln post y z0 z1 j at0 d M' := by
  have zy : y ≠ z := hC.2.2.2.2.2
  have hA := mAl3_r hN
  intro j
  induction j with
  | zero => intro d at0 M' L h1 h2 h3 h4 h5 h6 h7 h8 h9; omega
  | succ j ih =>
    intro d at0 M' L h1 h2 h3 h4 h5 h6 h7 h8 h9
    have hle : ∀ K ∈ L, mDk n m K ≤ d := fun K hK => by
      obtain ⟨i, hi, ei⟩ := List.getElem_of_mem hK
      rw [← ei]
      rcases Nat.lt_or_ge i at0 with g | g
      · have := h5 i hi g; omega
      · have := h6 i hi g; omega
    unfold wX3_work_31
    refine ⟨by omega, fun g => h M' h3 (tbV_cong hN h2.2.2.1 (fun K hK hP => ?_)), fun g => ?_⟩
    · obtain ⟨p1, p2, p3, p4, p5, p6⟩ := key_pos hN hK hP
      have l := mDs_le (t := kT K) (mBd_all hN m hm) p1 p2 p3
      have ge := mDs_ge n m (kW n K) (kB n K) (kK n K) (kT K)
      have em : mDk n m K = mDs n m (kW n K) (kB n K) (kK n K) (kT K) := rfl
      by_cases g2 : K ∈ L
      · rw [if_pos g2]
      · rw [if_neg g2]
        rcases (show mDk n m K = -1 ∨ 0 ≤ mDk n m K by omega) with g3 | g3
        · exact g3.symm
        · exact absurd (h7 K hK hP g3 (by omega)) g2
    · have hC' := hC.ch h3
      refine sX3_settlePromotions hN hC' h2 hl hcap (hc.ch zy h3) (by omega) (?_) (fun M1 R r1 r2 r3 r4 => ?_)
      · cases d with
        | zero => exact Or.inl rfl
        | succ e => exact Or.inr ⟨e, rfl, fun K hK => by have := hle K hK; omega, fun K k1 k2 k3 k4 => h7 K k1 k2 k3 (by omega)⟩
      · have hall1 : ∀ K : Nat, (K : Int) < mAl3 n → cP n m K → 0 ≤ mDk n m K → mDk n m K ≤ d → K ∈ L ++ R := fun K k1 k2 k3 k4 => by
          rcases Int.lt_or_eq_of_le k4 with g2 | g2
          · exact List.mem_append.mpr (Or.inl (h7 K k1 k2 k3 g2))
          · rcases h8 K k1 k2 g2 with g3 | ⟨e, u1, u2, u3, u4⟩
            · exact List.mem_append.mpr (Or.inl g3)
            · subst u1
              have m2 := u3.1
              subst m2
              have at1 := lst_at hN k1 k2 g2
              rw [u2] at at1
              have pv := prV_at hN k1 k2 u2 at1 u3 u4
              obtain ⟨i, i1, i2⟩ := hall K ⟨rfl, k1, k2, u2, u3, by omega⟩
              have pfi := ((hc.2.1 i i1).2.2.2)
              rw [i2, pv] at pfi
              have := r4 i i1 (by rw [pfi]; push_cast; rfl)
              rw [i2] at this
              exact this
        have hF : mkF n m (L ++ R) d := ⟨fun K hK => by
          rcases List.mem_append.mp hK with g2 | g2
          · have := hle K g2; omega
          · have := r3 K g2; omega, hall1⟩
        have d6 : M1 y 6 (-1) = ((L ++ R).length : Int) := r1.2.2.2.1
        have lowI : ∀ (i : Nat) (hi : i < (L ++ R).length), i < at0 → mDk n m (L ++ R)[i] < d := fun i hi g2 => by
          rw [List.getElem_append_left (by omega)]
          exact h5 i (by omega) g2
        have eqI : ∀ (i : Nat) (hi : i < (L ++ R).length), at0 ≤ i → mDk n m (L ++ R)[i] = d := fun i hi g2 => by
          rcases Nat.lt_or_ge i L.length with g3 | g3
          · rw [List.getElem_append_left g3]
            exact h6 i g3 g2
          · rw [List.getElem_append_right g3]
            exact r3 _ (List.getElem_mem _)
        rw [d6]
        intro _ v19 e19
        rw [e19]
        refine ⟨(L ++ R).length + 1, ?_⟩
        refine sX3_work_50 (M := M1) (at0 := at0) hN hm (hC'.ch r2) hF (by omega) eqI (fun M2 R2 s1 s2 s3 s4 => ?_) _ at0 M1 [] (Nat.le_refl _) (by rw [List.length_append]; omega) (by rw [List.append_nil]; exact r1) mkX.rf (fun K hK => absurd hK (List.not_mem_nil)) (fun i hi g2 g3 => by omega) (by omega)
        have e1 : (d : Int) + 1 = ((d + 1 : Nat) : Int) := by push_cast; rfl
        rw [e1]
        refine ih (d + 1) (L ++ R).length M2 (L ++ R ++ R2) (by omega) s1 ((h3.tr r2).tr s2) (by rw [List.length_append (as := L ++ R)]; omega) (fun i hi g2 => ?_) (fun i hi g2 => ?_) (fun K k1 k2 k3 k4 => ?_) (fun K k1 k2 k3 => ?_) (by omega)
        · rw [List.getElem_append_left g2]
          rcases Nat.lt_or_ge i at0 with g3 | g3
          · have := lowI i g2 g3; omega
          · have := eqI i g2 g3; omega
        · rw [List.getElem_append_right g2]
          exact (s3 _ (List.getElem_mem _)).trans (by omega)
        · exact List.mem_append.mpr (Or.inl (hall1 K k1 k2 k3 (by omega)))
        · have at1 := lst_at hN k1 k2 k3
          obtain ⟨p1, p2, p3, p4, p5, p6⟩ := key_pos hN k1 k2
          rcases (show kT K = 0 ∨ kT K = 1 by omega) with t0 | t1
          · rw [t0] at at1
            rcases (mAtD_w' at1).2 with ⟨x, x1, x2, x3⟩ | ⟨x, x1, x2, x3⟩ | ⟨x1, x2⟩
            · left
              exact prd_use hN k1 k2 (by rw [t0]; exact at1) hall1 lowI s4 x1 p2 p3 (by omega) x3 (Or.inl ⟨t0, rfl, rfl, Or.inl ⟨rfl, x2⟩⟩)
            · left
              exact prd_use hN k1 k2 (by rw [t0]; exact at1) hall1 lowI s4 p1 p2 x1 (by omega) x3 (Or.inl ⟨t0, rfl, rfl, Or.inr ⟨rfl, x2⟩⟩)
            · exact Or.inr ⟨d, rfl, t0, x1, x2⟩
          · rw [t1] at at1
            obtain ⟨x, x1, x2, x3⟩ := (mAtD_b' at1).2.1
            left
            exact prd_use hN k1 k2 (by rw [t1]; exact at1) hall1 lowI s4 p1 x1 p3 (by omega) x3 (Or.inr ⟨t1, rfl, rfl, rfl, x2⟩)
/-- the maker's work -/
theorem sX3_work {post : gM → Prop} {z0 z1 cap q0 q1 : Int} {pk : Nat → Nat} {pf : Nat → Int} (hN : mN n) (hm : 0 ≤ m ∧ m ≤ 2) (hC : mkC n m kd ln M o q z y) (hS : mkS n m M y z []) (hl : chL ln y cap) (hcap : 0 ≤ cap ∧ cap ≤ 65536) (hc2 : m = 2 → cap = pn n m (n * n * (n * n)) * n) (hc : chS n m M y 0 pk pf) (hQ : m = 2 → (tbC n 0 kd ln M o q0 z0 ∧ tbV n 0 (M z0) (fun K => mDk n 0 K)) ∧ (tbC n 1 kd ln M o q1 z1 ∧ tbV n 1 (M z1) (fun K => mDk n 1 K)) ∧ (kd z0 = 5 ∧ z0 ≠ 0 ∧ kd z1 = 5 ∧ z1 ≠ 0) ∧ (q0 ≠ y ∧ z0 ≠ y ∧ q1 ≠ y ∧ z1 ≠ y) ∧ (q0 ≠ z ∧ z0 ≠ z ∧ q1 ≠ z ∧ z1 ≠ z)) (h : ∀ M', (∀ a j, a ≠ y → ¬ (a = z ∧ j = 1) → M' a j = M a j) → tbV n m (M' z) (fun K => mDk n m K) → post M') : wX3_work kd ln post y z0 z1 M := by
  have zy : y ≠ z := hC.2.2.2.2.2
  unfold wX3_work
  refine sX3_findMates hN hm hC hS (fun M1 L s1 s2 s3 s4 => ?_)
  have hC1 := hC.ch s2
  have c1 := hc.ch zy s2
  rw [hC1.2.2.1.2.2.2.1]
  have fin : ∀ (M2 : gM) (np : Nat) (pk : Nat → Nat) (pf : Nat → Int), mkC n m kd ln M2 o q z y → mkS n m M2 y z L → chS n m M2 y np pk pf → (np : Int) ≤ cap → (∀ K, prK n m K → ∃ i, i < np ∧ pk i = K) → (∀ a j, a ≠ y → ¬ (a = z ∧ j = 1) → M2 a j = M a j) → wX3_work_26 kd ln post y z0 z1 M2 := fun M2 np pk pf g1 g2 g3 g4 g5 g6 => by
    unfold wX3_work_26
    refine ⟨127, sX3_work_31 hN hm g1 hl ⟨g4, hcap.2⟩ g3 g5 (fun M' u1 u2 => h M' (fun a j v1 v2 => ?_) u2) 127 0 0 M2 L (by omega) g2 mkX.rf (Nat.zero_le _) (fun i hi g => absurd g (Nat.not_lt_zero i)) (fun i hi _ => s3 _ (List.getElem_mem hi)) (fun K _ _ k3 k4 => by omega) (fun K k1 k2 k3 => Or.inl (s4 K k1 k2 k3)) (by omega)⟩
    rw [u1 a j v2 (fun e => v1 e.1)]
    exact g6 a j v1 v2
  have fr1 : ∀ a j, a ≠ y → ¬ (a = z ∧ j = 1) → M1 a j = M a j := fun a j v1 v2 => s2 a j v2 (fun e => v1 e.1)
  refine fun _ => ⟨fun g => fin M1 0 pk pf hC1 s1 c1 (by omega) (fun K hK => absurd hK.1 g) fr1, fun g => ?_⟩
  obtain ⟨⟨q1', q2'⟩, ⟨r1', r2'⟩, ⟨e1, e2, e3, e4⟩, ⟨y1, y2, y3, y4⟩, x1, x2, x3, x4⟩ := hQ g
  have eo : M1 o = M o := funext fun j => fr1 o j (fun e => hC.2.2.2.1 e.symm) (fun e => hC.1.2.2.2.1 e.1.symm)
  have e0q : M1 q0 = M q0 := funext fun j => fr1 q0 j y1 (fun e => x1 e.1)
  have e0z : M1 z0 = M z0 := funext fun j => fr1 z0 j y2 (fun e => x2 e.1)
  have e1q : M1 q1 = M q1 := funext fun j => fr1 q1 j y3 (fun e => x3 e.1)
  have e1z : M1 z1 = M z1 := funext fun j => fr1 z1 j y4 (fun e => x4 e.1)
  refine ⟨fun g2 => absurd g2 e2, fun _ => ⟨fun g2 => absurd g2 e4, fun _ => ⟨e1, e3, ?_⟩⟩⟩
  rw [hc2 g] at hl
  refine sX3_findPromotions hN g hC1 s1 s3 hl c1 ⟨q1'.eq eo e0q e0z, by rw [e0z]; exact q2'⟩ ⟨r1'.eq eo e1q e1z, by rw [e1z]; exact r2'⟩ ⟨y1, y2, y3, y4⟩ (fun M2 np pk' pf' u1 u2 u3 u4 => ?_)
  refine fin M2 np pk' pf' (hC1.cy u1) (s1.cy zy u1) u2 (by rw [hc2 g]; exact u3) u4 (fun a j v1 v2 => ?_)
  rw [u1.ot v1]
  exact fr1 a j v1 v2
end WL
