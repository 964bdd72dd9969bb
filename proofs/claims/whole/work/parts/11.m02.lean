set_option maxHeartbeats 4000000 in
set_option maxRecDepth 100000 in
theorem mX3_findMates (l : Launch) (D : va_G) (cy : Nat → ClassId) (kd : gKd) (ln : gLn) (rh : gRh) (post : gM → Prop) (a0 : Int) (M : gM) (hk0 : kd a0 = 3) (h : wX3_findMates kd ln post a0 M) : gMV l D cy yX3_findMates cX3_findMates 2 3 71 [.ref (gad a0)] kd ln rh M post := by
  refine gMV_of (own := RX3) (by decide) rfl (Nat.le_of_ble_eq_true rfl) ?_
  intro p e s m args below meth c A H0 Q C hret
  have t35 : ∀ (k2 : Int → gM → Prop), (∀ (x1 : Int), ∀ (M : gM), k2 x1 M → gW p l e (gRm 3 71) s m args below meth c D cy A H0 Q 2 kd ln rh 0 0 M 2 [(0, .ref (gad a0)), (1, .int (gI x1))] []) → ∀ (x1 : Int) (M : gM), wX3_findMates_35 kd ln post a0 k2 x1 M → gW p l e (gRm 3 71) s m args below meth c D cy A H0 Q 2 kd ln rh 0 0 M 35 [(0, .ref (gad a0)), (1, .int (gI x1))] [] := by
    intro k2 hk2_ x1 M h
    unfold wX3_findMates_35 at h
    refine q_iinc (lv' := [(1, .int (gI (x1 + 2))), (0, .ref (gad a0))]) C 1 rfl (by decide) rfl dX3_findMates_35 ?_
    refine q_goto (tgt := 2) C (by decide) dX3_findMates_38 ?_
    refine q_lv (lv' := [(0, .ref (gad a0)), (1, .int (gI (x1 + 2)))]) [1, 0] rfl ?_
    exact hk2_ (x1 + 2) M h
  have t2 : ∀ (n : Nat) (x1 : Int) (M : gM), wX3_findMates_2 kd ln post a0 n x1 M → gW p l e (gRm 3 71) s m args below meth c D cy A H0 Q 2 kd ln rh 0 0 M 2 [(0, .ref (gad a0)), (1, .int (gI x1))] [] := by
    intro n
    induction n with
    | zero => intro x1 M h; exact absurd h (by simp [wX3_findMates_2])
    | succ n ih =>
      intro x1 M h
      have hk2_ := ih
      rw [wX3_findMates_2] at h
      refine q_iload_n C 1 rfl rfl dX3_findMates_2 ?_
      refine q_aload_n C 0 rfl rfl dX3_findMates_3 ?_
      obtain ⟨r2, h⟩ := h
      obtain ⟨r3, h⟩ := h
      obtain ⟨r4, h⟩ := h
      refine q_get (v := .ref (rh (M a0 3 (-1)) 1)) C fX3_34 hk0 (if_neg r2) dX3_findMates_4 (fun g1 => ?_)
      refine q_alen (t0 := 1) C r3 rfl r4 dX3_findMates_7 (fun g5 => ?_)
      have h := h g5
      have g6 : rng (ln (M a0 3 (-1)) 1) := ⟨by omega, by omega⟩
      obtain ⟨r7, h⟩ := h
      refine q_icmp_ge (tgt := 41) C r7 g6 (by decide) dX3_findMates_8 (fun b8 => ?_) (fun b8 => ?_)
      · have h := h.1 b8
        exact hret M _ _ dX3_findMates_41 h
      · have h := h.2 b8
        refine q_aload_n C 0 rfl rfl dX3_findMates_11 ?_
        refine q_get (v := .ref (rh (M a0 3 (-1)) 1)) C fX3_34 hk0 (if_neg r2) dX3_findMates_12 (fun g9 => ?_)
        refine q_iload_n C 1 rfl rfl dX3_findMates_15 ?_
        obtain ⟨r10, h⟩ := h
        refine q_bald C r3 rfl (fun _ q => q) r10 dX3_findMates_16 (fun g11 => ?_)
        have h := h g11
        refine q_iconst C dX3_findMates_17 ?_
        refine q_icmp_ne (tgt := 35) C g11 (show rng (-1) by decide) (by decide) dX3_findMates_18 (fun b12 => ?_) (fun b12 => ?_)
        · have h := h.1 b12
          exact t35 (wX3_findMates_2 kd ln post a0 n) hk2_ x1 M h
        · have h := h.2 b12
          refine q_aload_n C 0 rfl rfl dX3_findMates_21 ?_
          refine q_iload_n C 1 rfl rfl dX3_findMates_22 ?_
          refine q_callVI (As := [.int (gI x1)]) (st := []) C vX3_86 kX3_isMate ⟨Nat.le_of_ble_eq_true rfl, Nat.le_of_ble_eq_true rfl⟩ ⟨Nat.le_of_ble_eq_true rfl, Nat.le_of_ble_eq_true rfl⟩ rfl hk0 ⟨_, _, rfl⟩ (by decide) rfl (Nat.le_of_ble_eq_true rfl) (mX3_isMate l D cy kd ln rh _ a0 x1 M hk0 h) dX3_findMates_23 (fun c14 M13 g15 h => ?_)
          have h := h g15
          refine q_if_eq (tgt := 35) C g15 (by decide) dX3_findMates_26 (fun b16 => ?_) (fun b16 => ?_)
          · have h := h.1 b16
            exact t35 (wX3_findMates_2 kd ln post a0 n) hk2_ x1 M13 h
          · have h := h.2 b16
            refine q_aload_n C 0 rfl rfl dX3_findMates_29 ?_
            refine q_iload_n C 1 rfl rfl dX3_findMates_30 ?_
            refine q_iconst C dX3_findMates_31 ?_
            refine q_callVV (As := [.int (gI x1), .int (gI 0)]) (st := []) C vX3_90 kX3_settle ⟨Nat.le_of_ble_eq_true rfl, Nat.le_of_ble_eq_true rfl⟩ ⟨Nat.le_of_ble_eq_true rfl, Nat.le_of_ble_eq_true rfl⟩ rfl hk0 ⟨_, _, rfl⟩ (by decide) rfl (Nat.le_of_ble_eq_true rfl) (mX3_settle l D cy kd ln rh _ a0 x1 0 M13 hk0 h) dX3_findMates_32 (fun M17 h => ?_)
            exact t35 (wX3_findMates_2 kd ln post a0 n) hk2_ x1 M17 h
  unfold wX3_findMates at h
  refine q_iconst C dX3_findMates_0 ?_
  refine q_istore_n (lv' := [(1, .int (gI 1)), (0, .ref (gad a0))]) C rfl (by decide) rfl dX3_findMates_1 ?_
  refine q_lv (lv' := [(0, .ref (gad a0)), (1, .int (gI 1))]) [1, 0] rfl ?_
  obtain ⟨j2, h⟩ := h
  exact t2  j2 1 M h
set_option maxHeartbeats 4000000 in
set_option maxRecDepth 100000 in
theorem mX5_look (l : Launch) (D : va_G) (cy : Nat → ClassId) (kd : gKd) (ln : gLn) (rh : gRh) (post : Int → gM → Prop) (a0 : Int) (a1 : Int) (a2 : Int) (a3 : Int) (a4 : Int) (M : gM) (hk0 : kd a0 = 5) (h : wX5_look kd ln post a0 a1 a2 a3 a4 M) : gMI l D cy yX5_look cX5_look 6 .int 2 49 [.ref (gad a0), .int (gI a1), .int (gI a2), .int (gI a3), .int (gI a4)] kd ln rh M post := by
  refine gMI_of (own := RX5) (by decide) rfl (Nat.le_of_ble_eq_true rfl) ?_
  intro p e s m args below meth c A H0 Q C hret
  have t30 : ∀ (M : gM), wX5_look_30 kd ln post a0 a1 a2 a3 a4  M → gW p l e (gRm 2 49) s m args below meth c D cy A H0 Q 6 kd ln rh 0 0 M 30 [] [] := by
    intro   M h
    unfold wX5_look_30 at h
    refine q_iconst C dX5_look_30 ?_
    refine q_goto (tgt := 41) C (by decide) dX5_look_31 ?_
    exact hret (-1) M _ _ dX5_look_41 (show rng (-1) by decide) h
  unfold wX5_look at h
  refine q_aload_n C 0 rfl rfl dX5_look_0 ?_
  refine q_get (v := gR (M a0 2 (-1))) C fX5_35 hk0 rfl dX5_look_1 (fun g1 => ?_)
  obtain ⟨r2, h⟩ := h
  refine q_nn r2 (by decide) ?_
  refine q_iload_n C 1 rfl rfl dX5_look_4 ?_
  refine q_iload_n C 2 rfl rfl dX5_look_5 ?_
  refine q_iload_n C 3 rfl rfl dX5_look_6 ?_
  refine q_iload C 4 rfl dX5_look_7 ?_
  refine q_callVI (As := [.int (gI a1), .int (gI a2), .int (gI a3), .int (gI a4)]) (st := []) C vX5_76 kX2_cellOf ⟨Nat.le_of_ble_eq_true rfl, Nat.le_of_ble_eq_true rfl⟩ ⟨Nat.le_of_ble_eq_true rfl, Nat.le_of_ble_eq_true rfl⟩ rfl r2 ⟨_, _, rfl⟩ (by decide) rfl (Nat.le_of_ble_eq_true rfl) (mX2_cellOf l D cy kd ln rh _ (M a0 2 (-1)) a1 a2 a3 a4 M r2 h) dX5_look_9 (fun c4 M3 g5 h => ?_)
  have h := h g5
  refine q_istore (lv' := [(5, .int (gI c4)), (0, .ref (gad a0)), (1, .int (gI a1)), (2, .int (gI a2)), (3, .int (gI a3)), (4, .int (gI a4))]) C (by decide) rfl dX5_look_12 ?_
  refine q_iload C 0 rfl dX5_look_14 ?_
  refine q_iconst C dX5_look_16 ?_
  refine q_icmp_eq (tgt := 30) C g5 (show rng (-1) by decide) (by decide) dX5_look_17 (fun b6 => ?_) (fun b6 => ?_)
  · have h := h.1 b6
    refine q_lv (lv' := []) [] rfl ?_
    exact t30  M3 h
  · have h := h.2 b6
    refine q_aload_n C 1 rfl rfl dX5_look_20 ?_
    obtain ⟨r7, h⟩ := h
    refine q_get (v := .ref (rh a0 1)) C fX5_44 hk0 (if_neg (Int.not_lt.mpr r7)) dX5_look_21 (fun g8 => ?_)
    refine q_iload C 0 rfl dX5_look_24 ?_
    obtain ⟨r9, h⟩ := h
    refine q_bald C hk0 rfl (fun _ q => q) r9 dX5_look_26 (fun g10 => ?_)
    have h := h g10
    refine q_if_ge (tgt := 34) C g10 (by decide) dX5_look_27 (fun b11 => ?_) (fun b11 => ?_)
    · have h := h.1 b11
      refine q_aload_n C 1 rfl rfl dX5_look_34 ?_
      refine q_get (v := .ref (rh a0 1)) C fX5_44 hk0 (if_neg (Int.not_lt.mpr r7)) dX5_look_35 (fun g12 => ?_)
      refine q_iload C 0 rfl dX5_look_38 ?_
      refine q_bald C hk0 rfl (fun _ q => q) r9 dX5_look_40 (fun g13 => ?_)
      exact hret (M3 a0 1 c4) M3 _ _ dX5_look_41 g10 h
    · have h := h.2 b11
      refine q_lv (lv' := []) [] rfl ?_
      exact t30  M3 h
set_option maxHeartbeats 4000000 in
set_option maxRecDepth 100000 in
theorem mX3_lesserDistance (l : Launch) (D : va_G) (cy : Nat → ClassId) (kd : gKd) (ln : gLn) (rh : gRh) (post : Int → gM → Prop) (a0 : Int) (a1 : Int) (M : gM)  (h : wX3_lesserDistance kd ln post a0 a1 M) : gMI l D cy yX3_lesserDistance cX3_lesserDistance 2 .int 1 21 [.int (gI a0), .int (gI a1)] kd ln rh M post := by
  refine gMI_of (own := RX3) (by decide) rfl (Nat.le_of_ble_eq_true rfl) ?_
  intro p e s m args below meth c A H0 Q C hret
  have t10 : ∀ (M : gM), wX3_lesserDistance_10 kd ln post a0 a1  M → gW p l e (gRm 1 21) s m args below meth c D cy A H0 Q 2 kd ln rh 0 0 M 10 [(0, .int (gI a0)), (1, .int (gI a1))] [] := by
    intro   M h
    unfold wX3_lesserDistance_10 at h
    refine q_iload_n C 0 rfl rfl dX3_lesserDistance_10 ?_
    refine q_iload_n C 1 rfl rfl dX3_lesserDistance_11 ?_
    obtain ⟨r6, h⟩ := h
    obtain ⟨r7, h⟩ := h
    refine q_mmax C r6 r7 jX3_132 (by decide) (Nat.le_of_ble_eq_true rfl) ⟨Nat.le_refl _, Nat.le_refl _⟩ dX3_lesserDistance_12 ?_
    obtain ⟨r8, h⟩ := h
    exact hret (if a0 < a1 then a1 else a0) M _ _ dX3_lesserDistance_15 r8 h
  unfold wX3_lesserDistance at h
  refine q_iload_n C 0 rfl rfl dX3_lesserDistance_0 ?_
  refine q_iconst C dX3_lesserDistance_1 ?_
  obtain ⟨r1, h⟩ := h
  refine q_icmp_eq (tgt := 10) C r1 (show rng (-1) by decide) (by decide) dX3_lesserDistance_2 (fun b2 => ?_) (fun b2 => ?_)
  · have h := h.1 b2
    exact t10  M h
  · have h := h.2 b2
    refine q_iload_n C 1 rfl rfl dX3_lesserDistance_5 ?_
    refine q_iconst C dX3_lesserDistance_6 ?_
    obtain ⟨r3, h⟩ := h
    refine q_icmp_ne (tgt := 16) C r3 (show rng (-1) by decide) (by decide) dX3_lesserDistance_7 (fun b4 => ?_) (fun b4 => ?_)
    · have h := h.1 b4
      refine q_iload_n C 0 rfl rfl dX3_lesserDistance_16 ?_
      refine q_iload_n C 1 rfl rfl dX3_lesserDistance_17 ?_
      refine q_mmin C r1 r3 jX3_137 (by decide) (Nat.le_of_ble_eq_true rfl) ⟨Nat.le_refl _, Nat.le_refl _⟩ dX3_lesserDistance_18 ?_
      obtain ⟨r5, h⟩ := h
      exact hret (if a1 < a0 then a1 else a0) M _ _ dX3_lesserDistance_21 r5 h
    · have h := h.2 b4
      exact t10  M h
set_option maxHeartbeats 4000000 in
set_option maxRecDepth 100000 in
theorem mX3_chainPromotion (l : Launch) (D : va_G) (cy : Nat → ClassId) (kd : gKd) (ln : gLn) (rh : gRh) (post : gM → Prop) (a0 : Int) (a1 : Int) (a2 : Int) (M : gM) (hk0 : kd a0 = 3) (h : wX3_chainPromotion kd ln post a0 a1 a2 M) : gMV l D cy yX3_chainPromotion cX3_chainPromotion 3 0 0 [.ref (gad a0), .int (gI a1), .int (gI a2)] kd ln rh M post := by
  refine gMV_of (own := RX3) (by decide) rfl (Nat.le_of_ble_eq_true rfl) ?_
  intro p e s m args below meth c A H0 Q C hret
  unfold wX3_chainPromotion at h
  refine q_iload_n C 2 rfl rfl dX3_chainPromotion_0 ?_
  refine q_iconst C dX3_chainPromotion_1 ?_
  obtain ⟨r1, h⟩ := h
  refine q_icmp_eq (tgt := 23) C r1 (show rng (-1) by decide) (by decide) dX3_chainPromotion_2 (fun b2 => ?_) (fun b2 => ?_)
  · have h := h.1 b2
    exact hret M _ _ dX3_chainPromotion_23 h
  · have h := h.2 b2
    refine q_iload_n C 2 rfl rfl dX3_chainPromotion_5 ?_
    refine q_bipush C (by decide) dX3_chainPromotion_6 ?_
    refine q_icmp_ge (tgt := 23) C r1 (show rng 126 by decide) (by decide) dX3_chainPromotion_8 (fun b3 => ?_) (fun b3 => ?_)
    · have h := h.1 b3
      exact hret M _ _ dX3_chainPromotion_23 h
    · have h := h.2 b3
      refine q_aload_n C 0 rfl rfl dX3_chainPromotion_11 ?_
      refine q_get (v := .int (gI (M a0 10 (-1)))) C fX3_140 hk0 rfl dX3_chainPromotion_12 (fun g4 => ?_)
      have h := h g4
      refine q_aload_n C 0 rfl rfl dX3_chainPromotion_15 ?_
      obtain ⟨r5, h⟩ := h
      refine q_get (v := .ref (rh a0 9)) C fX3_59 hk0 (if_neg (Int.not_lt.mpr r5)) dX3_chainPromotion_16 (fun g6 => ?_)
      refine q_alen (t0 := 0) C hk0 rfl r5 dX3_chainPromotion_19 (fun g7 => ?_)
      have h := h g7
      have g8 : rng (ln a0 9) := ⟨by omega, by omega⟩
      refine q_icmp_lt (tgt := 24) C g4 g8 (by decide) dX3_chainPromotion_20 (fun b9 => ?_) (fun b9 => ?_)
      · have h := h.1 b9
        refine q_aload_n C 0 rfl rfl dX3_chainPromotion_24 ?_
        refine q_get (v := .ref (rh a0 9)) C fX3_59 hk0 (if_neg (Int.not_lt.mpr r5)) dX3_chainPromotion_25 (fun g10 => ?_)
        refine q_aload_n C 0 rfl rfl dX3_chainPromotion_28 ?_
        refine q_get (v := .int (gI (M a0 10 (-1)))) C fX3_140 hk0 rfl dX3_chainPromotion_29 (fun g11 => ?_)
        refine q_iload_n C 1 rfl rfl dX3_chainPromotion_32 ?_
        obtain ⟨r12, h⟩ := h
        obtain ⟨r13, h⟩ := h
        refine q_iast C hk0 rfl r13 r12 dX3_chainPromotion_33 ?_
        refine q_aload_n C 0 rfl rfl dX3_chainPromotion_34 ?_
        obtain ⟨r14, h⟩ := h
        refine q_get (v := .ref (rh a0 8)) C fX3_56 hk0 (if_neg (Int.not_lt.mpr r14)) dX3_chainPromotion_35 (fun g15 => ?_)
        refine q_aload_n C 0 rfl rfl dX3_chainPromotion_38 ?_
        refine q_get (v := .int (gI ((gu M a0 9 (M a0 10 (-1)) a1) a0 10 (-1)))) C fX3_140 hk0 rfl dX3_chainPromotion_39 (fun g16 => ?_)
        have h := h g16
        refine q_aload_n C 0 rfl rfl dX3_chainPromotion_42 ?_
        obtain ⟨r17, h⟩ := h
        refine q_get (v := .ref (rh a0 7)) C fX3_9 hk0 (if_neg (Int.not_lt.mpr r17)) dX3_chainPromotion_43 (fun g18 => ?_)
        refine q_iload_n C 2 rfl rfl dX3_chainPromotion_46 ?_
        refine q_iconst C dX3_chainPromotion_47 ?_
        refine q_iadd C dX3_chainPromotion_48 ?_
        obtain ⟨r19, h⟩ := h
        refine q_iald C hk0 rfl (fun _ q => q) r19 dX3_chainPromotion_49 (fun g20 => ?_)
        have h := h g20
        obtain ⟨r21, h⟩ := h
        refine q_iast C hk0 rfl g20 r21 dX3_chainPromotion_50 ?_
        refine q_aload_n C 0 rfl rfl dX3_chainPromotion_51 ?_
        refine q_get (v := .ref (rh a0 7)) C fX3_9 hk0 (if_neg (Int.not_lt.mpr r17)) dX3_chainPromotion_52 (fun g22 => ?_)
        refine q_iload_n C 2 rfl rfl dX3_chainPromotion_55 ?_
        refine q_iconst C dX3_chainPromotion_56 ?_
        refine q_iadd C dX3_chainPromotion_57 ?_
        refine q_aload_n C 0 rfl rfl dX3_chainPromotion_58 ?_
        refine q_get (v := .int (gI ((gu (gu M a0 9 (M a0 10 (-1)) a1) a0 8 ((gu M a0 9 (M a0 10 (-1)) a1) a0 10 (-1)) ((gu M a0 9 (M a0 10 (-1)) a1) a0 7 (a2 + 1))) a0 10 (-1)))) C fX3_140 hk0 rfl dX3_chainPromotion_59 (fun g23 => ?_)
        have h := h g23
        refine q_iast C hk0 rfl g23 r19 dX3_chainPromotion_62 ?_
        refine q_aload_n C 0 rfl rfl dX3_chainPromotion_63 ?_
        refine q_dup C rfl dX3_chainPromotion_64 ?_
        refine q_get (v := .int (gI ((gu (gu (gu M a0 9 (M a0 10 (-1)) a1) a0 8 ((gu M a0 9 (M a0 10 (-1)) a1) a0 10 (-1)) ((gu M a0 9 (M a0 10 (-1)) a1) a0 7 (a2 + 1))) a0 7 (a2 + 1) ((gu (gu M a0 9 (M a0 10 (-1)) a1) a0 8 ((gu M a0 9 (M a0 10 (-1)) a1) a0 10 (-1)) ((gu M a0 9 (M a0 10 (-1)) a1) a0 7 (a2 + 1))) a0 10 (-1))) a0 10 (-1)))) C fX3_140 hk0 rfl dX3_chainPromotion_65 (fun g24 => ?_)
        have h := h g24
        refine q_iconst C dX3_chainPromotion_68 ?_
        refine q_iadd C dX3_chainPromotion_69 ?_
        obtain ⟨r25, h⟩ := h
        refine q_put (x := (((gu (gu (gu M a0 9 (M a0 10 (-1)) a1) a0 8 ((gu M a0 9 (M a0 10 (-1)) a1) a0 10 (-1)) ((gu M a0 9 (M a0 10 (-1)) a1) a0 7 (a2 + 1))) a0 7 (a2 + 1) ((gu (gu M a0 9 (M a0 10 (-1)) a1) a0 8 ((gu M a0 9 (M a0 10 (-1)) a1) a0 10 (-1)) ((gu M a0 9 (M a0 10 (-1)) a1) a0 7 (a2 + 1))) a0 10 (-1))) a0 10 (-1)) + 1)) (ty := .int) C fX3_140 hk0 (fun _ _ _ q => by cases q; rfl) (congrArg (fun z => Value.int (gI z)) gu_s) rfl rfl r25 (fun j q => absurd (show (0 : Nat) = j + 3 from q) (by omega)) dX3_chainPromotion_70 ?_
        exact hret (gu (gu (gu (gu M a0 9 (M a0 10 (-1)) a1) a0 8 ((gu M a0 9 (M a0 10 (-1)) a1) a0 10 (-1)) ((gu M a0 9 (M a0 10 (-1)) a1) a0 7 (a2 + 1))) a0 7 (a2 + 1) ((gu (gu M a0 9 (M a0 10 (-1)) a1) a0 8 ((gu M a0 9 (M a0 10 (-1)) a1) a0 10 (-1)) ((gu M a0 9 (M a0 10 (-1)) a1) a0 7 (a2 + 1))) a0 10 (-1))) a0 10 (-1) (((gu (gu (gu M a0 9 (M a0 10 (-1)) a1) a0 8 ((gu M a0 9 (M a0 10 (-1)) a1) a0 10 (-1)) ((gu M a0 9 (M a0 10 (-1)) a1) a0 7 (a2 + 1))) a0 7 (a2 + 1) ((gu (gu M a0 9 (M a0 10 (-1)) a1) a0 8 ((gu M a0 9 (M a0 10 (-1)) a1) a0 10 (-1)) ((gu M a0 9 (M a0 10 (-1)) a1) a0 7 (a2 + 1))) a0 10 (-1))) a0 10 (-1)) + 1)) _ _ dX3_chainPromotion_73 h
      · have h := h.2 b9
        exact hret M _ _ dX3_chainPromotion_23 h
set_option maxHeartbeats 4000000 in
set_option maxRecDepth 100000 in
theorem mX3_findPromotions (l : Launch) (D : va_G) (cy : Nat → ClassId) (kd : gKd) (ln : gLn) (rh : gRh) (post : gM → Prop) (a0 : Int) (a1 : Int) (a2 : Int) (M : gM) (hk0 : kd a0 = 3) (hk1 : kd a1 = 5) (hk2 : kd a2 = 5) (h : wX3_findPromotions kd ln post a0 a1 a2 M) : gMV l D cy yX3_findPromotions cX3_findPromotions 10 3 74 [.ref (gad a0), .ref (gad a1), .ref (gad a2)] kd ln rh M post := by
  refine gMV_of (own := RX3) (by decide) rfl (Nat.le_of_ble_eq_true rfl) ?_
  intro p e s m args below meth c A H0 Q C hret
  have t145 : ∀ (k2 : Int → gM → Prop), (∀ (x3 : Int), ∀ (M : gM), k2 x3 M → gW p l e (gRm 3 74) s m args below meth c D cy A H0 Q 10 kd ln rh 0 0 M 2 [(0, .ref (gad a0)), (1, .ref (gad a1)), (2, .ref (gad a2)), (3, .int (gI x3))] []) → ∀ (k52 : Int → Int → Int → Int → gM → Prop), (∀ (x3 : Int), ∀ (x4 : Int), ∀ (x5 : Int), ∀ (x6 : Int), ∀ (M : gM), k52 x3 x4 x5 x6 M → gW p l e (gRm 3 74) s m args below meth c D cy A H0 Q 10 kd ln rh 0 0 M 52 [(0, .ref (gad a0)), (1, .ref (gad a1)), (2, .ref (gad a2)), (3, .int (gI x3)), (4, .int (gI x4)), (5, .int (gI x5)), (6, .int (gI x6))] []) → ∀ (x3 : Int) (x4 : Int) (x5 : Int) (x6 : Int) (M : gM), wX3_findPromotions_145 kd ln post a0 a1 a2 k2 k52 x3 x4 x5 x6 M → gW p l e (gRm 3 74) s m args below meth c D cy A H0 Q 10 kd ln rh 0 0 M 145 [(0, .ref (gad a0)), (1, .ref (gad a1)), (2, .ref (gad a2)), (3, .int (gI x3)), (4, .int (gI x4)), (5, .int (gI x5)), (6, .int (gI x6))] [] := by
    intro k2 hk2_ k52 hk52_ x3 x4 x5 x6 M h
    unfold wX3_findPromotions_145 at h
    refine q_iinc (lv' := [(6, .int (gI (x6 + 1))), (0, .ref (gad a0)), (1, .ref (gad a1)), (2, .ref (gad a2)), (3, .int (gI x3)), (4, .int (gI x4)), (5, .int (gI x5))]) C 6 rfl (by decide) rfl dX3_findPromotions_145 ?_
    refine q_goto (tgt := 52) C (by decide) dX3_findPromotions_148 ?_
    refine q_lv (lv' := [(0, .ref (gad a0)), (1, .ref (gad a1)), (2, .ref (gad a2)), (3, .int (gI x3)), (4, .int (gI x4)), (5, .int (gI x5)), (6, .int (gI (x6 + 1)))]) [1, 2, 3, 4, 5, 6, 0] rfl ?_
    exact hk52_ x3 x4 x5 (x6 + 1) M h
  have t52 : ∀ (k2 : Int → gM → Prop), (∀ (x3 : Int), ∀ (M : gM), k2 x3 M → gW p l e (gRm 3 74) s m args below meth c D cy A H0 Q 10 kd ln rh 0 0 M 2 [(0, .ref (gad a0)), (1, .ref (gad a1)), (2, .ref (gad a2)), (3, .int (gI x3))] []) → ∀ (n : Nat) (x3 : Int) (x4 : Int) (x5 : Int) (x6 : Int) (M : gM), wX3_findPromotions_52 kd ln post a0 a1 a2 k2 n x3 x4 x5 x6 M → gW p l e (gRm 3 74) s m args below meth c D cy A H0 Q 10 kd ln rh 0 0 M 52 [(0, .ref (gad a0)), (1, .ref (gad a1)), (2, .ref (gad a2)), (3, .int (gI x3)), (4, .int (gI x4)), (5, .int (gI x5)), (6, .int (gI x6))] [] := by
    intro k2 hk2_
    intro n
    induction n with
    | zero => intro x3 x4 x5 x6 M h; exact absurd h (by simp [wX3_findPromotions_52])
    | succ n ih =>
      intro x3 x4 x5 x6 M h
      have hk52_ := ih
      rw [wX3_findPromotions_52] at h
      refine q_iload C 6 rfl dX3_findPromotions_52 ?_
      refine q_aload_n C 0 rfl rfl dX3_findPromotions_54 ?_
      refine q_get (v := gR (M a0 0 (-1))) C fX3_15 hk0 rfl dX3_findPromotions_55 (fun g24 => ?_)
      obtain ⟨r25, h⟩ := h
      refine q_nn r25 (by decide) ?_
      refine q_get (v := .int (gI (M (M a0 0 (-1)) 1 (-1)))) C fX3_114 r25 rfl dX3_findPromotions_58 (fun g26 => ?_)
      have h := h g26
      obtain ⟨r27, h⟩ := h
      refine q_icmp_ge (tgt := 151) C r27 g26 (by decide) dX3_findPromotions_61 (fun b28 => ?_) (fun b28 => ?_)
      · have h := h.1 b28
        refine q_iinc (lv' := [(3, .int (gI (x3 + 1))), (0, .ref (gad a0)), (1, .ref (gad a1)), (2, .ref (gad a2)), (4, .int (gI x4)), (5, .int (gI x5)), (6, .int (gI x6))]) C 3 rfl (by decide) rfl dX3_findPromotions_151 ?_
        refine q_goto (tgt := 2) C (by decide) dX3_findPromotions_154 ?_
        refine q_lv (lv' := [(0, .ref (gad a0)), (1, .ref (gad a1)), (2, .ref (gad a2)), (3, .int (gI (x3 + 1)))]) [1, 2, 3, 0] rfl ?_
        exact hk2_ (x3 + 1) M h
      · have h := h.2 b28
        refine q_iload_n C 3 rfl rfl dX3_findPromotions_64 ?_
        refine q_iload C 6 rfl dX3_findPromotions_65 ?_
        refine q_aload_n C 0 rfl rfl dX3_findPromotions_67 ?_
        refine q_get (v := gR (M a0 0 (-1))) C fX3_15 hk0 rfl dX3_findPromotions_68 (fun g29 => ?_)
        refine q_nn r25 (by decide) ?_
        refine q_get (v := .int (gI (M (M a0 0 (-1)) 0 (-1)))) C fX3_51 r25 rfl dX3_findPromotions_71 (fun g30 => ?_)
        have h := h g30
        refine q_isub C dX3_findPromotions_74 ?_
        refine q_iconst C dX3_findPromotions_75 ?_
        refine q_callSI (As := [.int (gI x3), .int (gI (x6 - (M (M a0 0 (-1)) 0 (-1)))), .int (gI 0)]) (st := []) C vX3_117 kX5_cellAt ⟨Nat.le_of_ble_eq_true rfl, Nat.le_of_ble_eq_true rfl⟩ ⟨Nat.le_of_ble_eq_true rfl, Nat.le_of_ble_eq_true rfl⟩ rfl rfl (Nat.le_of_ble_eq_true rfl) (mX5_cellAt l D cy kd ln rh _ x3 (x6 - (M (M a0 0 (-1)) 0 (-1))) 0 M  h) dX3_findPromotions_76 (fun c32 M31 g33 h => ?_)
        have h := h g33
        refine q_istore (lv' := [(7, .int (gI c32)), (0, .ref (gad a0)), (1, .ref (gad a1)), (2, .ref (gad a2)), (3, .int (gI x3)), (4, .int (gI x4)), (5, .int (gI x5)), (6, .int (gI x6))]) C (by decide) rfl dX3_findPromotions_79 ?_
        refine q_aload_n C 1 rfl rfl dX3_findPromotions_81 ?_
        obtain ⟨r35, h⟩ := h
        obtain ⟨r36, h⟩ := h
        obtain ⟨r37, h⟩ := h
        refine q_get (v := .ref (rh (M31 a0 3 (-1)) 1)) C fX3_34 hk0 (if_neg r35) dX3_findPromotions_82 (fun g34 => ?_)
        refine q_iload C 0 rfl dX3_findPromotions_85 ?_
        obtain ⟨r38, h⟩ := h
        refine q_bald C r36 rfl (fun _ q => q) r38 dX3_findPromotions_87 (fun g39 => ?_)
        have h := h g39
        refine q_iconst C dX3_findPromotions_88 ?_
        refine q_icmp_ne (tgt := 145) C g39 (show rng (-1) by decide) (by decide) dX3_findPromotions_89 (fun b40 => ?_) (fun b40 => ?_)
        · have h := h.1 b40
          refine q_lv (lv' := [(0, .ref (gad a0)), (1, .ref (gad a1)), (2, .ref (gad a2)), (3, .int (gI x3)), (4, .int (gI x4)), (5, .int (gI x5)), (6, .int (gI x6))]) [1, 2, 3, 4, 5, 6, 7] rfl ?_
          exact t145 k2 hk2_ (wX3_findPromotions_52 kd ln post a0 a1 a2 k2 n) hk52_ x3 x4 x5 x6 M31 h
        · have h := h.2 b40
          refine q_iload C 7 rfl dX3_findPromotions_92 ?_
          refine q_iload C 5 rfl dX3_findPromotions_94 ?_
          obtain ⟨r41, h⟩ := h
          refine q_icmp_eq (tgt := 145) C r27 r41 (by decide) dX3_findPromotions_96 (fun b42 => ?_) (fun b42 => ?_)
          · have h := h.1 b42
            refine q_lv (lv' := [(0, .ref (gad a0)), (1, .ref (gad a1)), (2, .ref (gad a2)), (3, .int (gI x3)), (4, .int (gI x4)), (5, .int (gI x5)), (6, .int (gI x6))]) [1, 2, 3, 4, 5, 6, 7] rfl ?_
            exact t145 k2 hk2_ (wX3_findPromotions_52 kd ln post a0 a1 a2 k2 n) hk52_ x3 x4 x5 x6 M31 h
          · have h := h.2 b42
            refine q_iload C 7 rfl dX3_findPromotions_99 ?_
            refine q_iload C 6 rfl dX3_findPromotions_101 ?_
            obtain ⟨r43, h⟩ := h
            refine q_icmp_eq (tgt := 145) C r27 r43 (by decide) dX3_findPromotions_103 (fun b44 => ?_) (fun b44 => ?_)
            · have h := h.1 b44
              refine q_lv (lv' := [(0, .ref (gad a0)), (1, .ref (gad a1)), (2, .ref (gad a2)), (3, .int (gI x3)), (4, .int (gI x4)), (5, .int (gI x5)), (6, .int (gI x6))]) [1, 2, 3, 4, 5, 6, 7] rfl ?_
              exact t145 k2 hk2_ (wX3_findPromotions_52 kd ln post a0 a1 a2 k2 n) hk52_ x3 x4 x5 x6 M31 h
            · have h := h.2 b44
              refine q_aload_n C 2 rfl rfl dX3_findPromotions_106 ?_
              refine q_iload C 5 rfl dX3_findPromotions_107 ?_
              refine q_iload C 6 rfl dX3_findPromotions_109 ?_
              refine q_iload C 7 rfl dX3_findPromotions_111 ?_
              refine q_iconst C dX3_findPromotions_113 ?_
              refine q_callVI (As := [.int (gI x4), .int (gI x5), .int (gI x6), .int (gI 1)]) (st := []) C vX3_121 kX5_look ⟨Nat.le_of_ble_eq_true rfl, Nat.le_of_ble_eq_true rfl⟩ ⟨Nat.le_of_ble_eq_true rfl, Nat.le_of_ble_eq_true rfl⟩ rfl hk1 ⟨_, _, rfl⟩ (by decide) rfl (Nat.le_of_ble_eq_true rfl) (mX5_look l D cy kd ln rh _ a1 x4 x5 x6 1 M31 hk1 h) dX3_findPromotions_114 (fun c46 M45 g47 h => ?_)
              have h := h g47
              refine q_istore (lv' := [(8, .int (gI c46)), (7, .int (gI c32)), (0, .ref (gad a0)), (1, .ref (gad a1)), (2, .ref (gad a2)), (3, .int (gI x3)), (4, .int (gI x4)), (5, .int (gI x5)), (6, .int (gI x6))]) C (by decide) rfl dX3_findPromotions_117 ?_
              refine q_aload_n C 4 rfl rfl dX3_findPromotions_119 ?_
              refine q_iload C 6 rfl dX3_findPromotions_120 ?_
              refine q_iload C 7 rfl dX3_findPromotions_122 ?_
              refine q_iload C 8 rfl dX3_findPromotions_124 ?_
              refine q_iconst C dX3_findPromotions_126 ?_
              refine q_callVI (As := [.int (gI x4), .int (gI x5), .int (gI x6), .int (gI 1)]) (st := []) C vX3_121 kX5_look ⟨Nat.le_of_ble_eq_true rfl, Nat.le_of_ble_eq_true rfl⟩ ⟨Nat.le_of_ble_eq_true rfl, Nat.le_of_ble_eq_true rfl⟩ rfl hk2 ⟨_, _, rfl⟩ (by decide) rfl (Nat.le_of_ble_eq_true rfl) (mX5_look l D cy kd ln rh _ a2 x4 x5 x6 1 M45 hk2 h) dX3_findPromotions_127 (fun c49 M48 g50 h => ?_)
              have h := h g50
              refine q_istore (lv' := [(9, .int (gI c49)), (8, .int (gI c46)), (7, .int (gI c32)), (0, .ref (gad a0)), (1, .ref (gad a1)), (2, .ref (gad a2)), (3, .int (gI x3)), (4, .int (gI x4)), (5, .int (gI x5)), (6, .int (gI x6))]) C (by decide) rfl dX3_findPromotions_130 ?_
              refine q_aload_n C 3 rfl rfl dX3_findPromotions_132 ?_
              refine q_iload C 2 rfl dX3_findPromotions_133 ?_
              refine q_iload C 1 rfl dX3_findPromotions_135 ?_
              refine q_iload C 0 rfl dX3_findPromotions_137 ?_
              refine q_callSI (As := [.int (gI c46), .int (gI c49)]) (st := [.int (gI c32), .ref (gad a0)]) C vX3_125 kX3_lesserDistance ⟨Nat.le_of_ble_eq_true rfl, Nat.le_of_ble_eq_true rfl⟩ ⟨Nat.le_of_ble_eq_true rfl, Nat.le_of_ble_eq_true rfl⟩ rfl rfl (Nat.le_of_ble_eq_true rfl) (mX3_lesserDistance l D cy kd ln rh _ c46 c49 M48  h) dX3_findPromotions_139 (fun c52 M51 g53 h => ?_)
              have h := h g53
              refine q_callVV (As := [.int (gI c32), .int (gI c52)]) (st := []) C vX3_129 kX3_chainPromotion ⟨Nat.le_of_ble_eq_true rfl, Nat.le_of_ble_eq_true rfl⟩ ⟨Nat.le_of_ble_eq_true rfl, Nat.le_of_ble_eq_true rfl⟩ rfl hk0 ⟨_, _, rfl⟩ (by decide) rfl (Nat.le_of_ble_eq_true rfl) (mX3_chainPromotion l D cy kd ln rh _ a0 c32 c52 M51 hk0 h) dX3_findPromotions_142 (fun M54 h => ?_)
              refine q_lv (lv' := [(0, .ref (gad a0)), (1, .ref (gad a1)), (2, .ref (gad a2)), (3, .int (gI x3)), (4, .int (gI x4)), (5, .int (gI x5)), (6, .int (gI x6))]) [3, 4, 5, 6, 7, 8, 9] rfl ?_
              exact t145 k2 hk2_ (wX3_findPromotions_52 kd ln post a0 a1 a2 k2 n) hk52_ x3 x4 x5 x6 M54 h
  have t2 : ∀ (n : Nat) (x3 : Int) (M : gM), wX3_findPromotions_2 kd ln post a0 a1 a2 n x3 M → gW p l e (gRm 3 74) s m args below meth c D cy A H0 Q 10 kd ln rh 0 0 M 2 [(0, .ref (gad a0)), (1, .ref (gad a1)), (2, .ref (gad a2)), (3, .int (gI x3))] [] := by
    intro n
    induction n with
    | zero => intro x3 M h; exact absurd h (by simp [wX3_findPromotions_2])
    | succ n ih =>
      intro x3 M h
      have hk2_ := ih
      rw [wX3_findPromotions_2] at h
      refine q_iload_n C 3 rfl rfl dX3_findPromotions_2 ?_
      refine q_aload_n C 0 rfl rfl dX3_findPromotions_3 ?_
      refine q_get (v := gR (M a0 2 (-1))) C fX3_29 hk0 rfl dX3_findPromotions_4 (fun g1 => ?_)
      obtain ⟨r2, h⟩ := h
      refine q_nn r2 (by decide) ?_
      refine q_get (v := .int (gI (M (M a0 2 (-1)) 0 (-1)))) C fX3_47 r2 rfl dX3_findPromotions_7 (fun g3 => ?_)
      have h := h g3
      obtain ⟨r4, h⟩ := h
      refine q_icmp_ge (tgt := 157) C r4 g3 (by decide) dX3_findPromotions_10 (fun b5 => ?_) (fun b5 => ?_)
      · have h := h.1 b5
        exact hret M _ _ dX3_findPromotions_157 h
      · have h := h.2 b5
        refine q_aload_n C 0 rfl rfl dX3_findPromotions_13 ?_
        refine q_get (v := gR (M a0 2 (-1))) C fX3_29 hk0 rfl dX3_findPromotions_14 (fun g6 => ?_)
        refine q_nn r2 (by decide) ?_
        obtain ⟨r7, h⟩ := h
        refine q_get (v := .ref (rh (M a0 2 (-1)) 1)) C fX3_93 r2 (if_neg (Int.not_lt.mpr r7)) dX3_findPromotions_17 (fun g8 => ?_)
        refine q_iload_n C 3 rfl rfl dX3_findPromotions_20 ?_
        obtain ⟨r9, h⟩ := h
        refine q_iald C r2 rfl (fun _ q => q) r9 dX3_findPromotions_21 (fun g10 => ?_)
        have h := h g10
        refine q_topi (fun v11 ev11 => ?_)
        have h := h v11 ev11
        have gv11 : rng v11 := by rw [ev11]; exact g10
        refine q_istore (lv' := [(4, .int (gI v11)), (0, .ref (gad a0)), (1, .ref (gad a1)), (2, .ref (gad a2)), (3, .int (gI x3))]) C (by decide) rfl dX3_findPromotions_22 ?_
        refine q_aload_n C 1 rfl rfl dX3_findPromotions_24 ?_
        refine q_get (v := gR (M a0 2 (-1))) C fX3_29 hk0 rfl dX3_findPromotions_25 (fun g12 => ?_)
        refine q_nn r2 (by decide) ?_
        obtain ⟨r13, h⟩ := h
        refine q_get (v := .ref (rh (M a0 2 (-1)) 2)) C fX3_100 r2 (if_neg (Int.not_lt.mpr r13)) dX3_findPromotions_28 (fun g14 => ?_)
        refine q_iload_n C 4 rfl rfl dX3_findPromotions_31 ?_
        obtain ⟨r15, h⟩ := h
        refine q_iald C r2 rfl (fun _ q => q) r15 dX3_findPromotions_32 (fun g16 => ?_)
        have h := h g16
        refine q_topi (fun v17 ev17 => ?_)
        have h := h v17 ev17
        have gv17 : rng v17 := by rw [ev17]; exact g16
        refine q_istore (lv' := [(5, .int (gI v17)), (4, .int (gI v11)), (0, .ref (gad a0)), (1, .ref (gad a1)), (2, .ref (gad a2)), (3, .int (gI x3))]) C (by decide) rfl dX3_findPromotions_33 ?_
        refine q_aload_n C 2 rfl rfl dX3_findPromotions_35 ?_
        refine q_get (v := gR (M a0 0 (-1))) C fX3_15 hk0 rfl dX3_findPromotions_36 (fun g18 => ?_)
        obtain ⟨r19, h⟩ := h
        refine q_nn r19 (by decide) ?_
        refine q_get (v := .int (gI (M (M a0 0 (-1)) 1 (-1)))) C fX3_114 r19 rfl dX3_findPromotions_39 (fun g20 => ?_)
        have h := h g20
        refine q_aload_n C 2 rfl rfl dX3_findPromotions_42 ?_
        refine q_get (v := gR (M a0 0 (-1))) C fX3_15 hk0 rfl dX3_findPromotions_43 (fun g21 => ?_)
        refine q_nn r19 (by decide) ?_
        refine q_get (v := .int (gI (M (M a0 0 (-1)) 0 (-1)))) C fX3_51 r19 rfl dX3_findPromotions_46 (fun g22 => ?_)
        have h := h g22
        refine q_isub C dX3_findPromotions_49 ?_
        refine q_topi (fun v23 ev23 => ?_)
        have h := h v23 ev23
        refine q_istore (lv' := [(6, .int (gI v23)), (5, .int (gI v17)), (4, .int (gI v11)), (0, .ref (gad a0)), (1, .ref (gad a1)), (2, .ref (gad a2)), (3, .int (gI x3))]) C (by decide) rfl dX3_findPromotions_50 ?_
        refine q_lv (lv' := [(0, .ref (gad a0)), (1, .ref (gad a1)), (2, .ref (gad a2)), (3, .int (gI x3)), (4, .int (gI v11)), (5, .int (gI v17)), (6, .int (gI v23))]) [3, 4, 5, 6, 2, 1, 0] rfl ?_
        obtain ⟨j52, h⟩ := h
        exact t52 (wX3_findPromotions_2 kd ln post a0 a1 a2 n) hk2_ j52 x3 v11 v17 v23 M h
  unfold wX3_findPromotions at h
  refine q_iconst C dX3_findPromotions_0 ?_
  refine q_istore_n (lv' := [(3, .int (gI 0)), (0, .ref (gad a0)), (1, .ref (gad a1)), (2, .ref (gad a2))]) C rfl (by decide) rfl dX3_findPromotions_1 ?_
  refine q_lv (lv' := [(0, .ref (gad a0)), (1, .ref (gad a1)), (2, .ref (gad a2)), (3, .int (gI 0))]) [1, 2, 3, 0] rfl ?_
  obtain ⟨j2, h⟩ := h
  exact t2  j2 0 M h
set_option maxHeartbeats 4000000 in
set_option maxRecDepth 100000 in
theorem mX3_settlePromotions (l : Launch) (D : va_G) (cy : Nat → ClassId) (kd : gKd) (ln : gLn) (rh : gRh) (post : gM → Prop) (a0 : Int) (a1 : Int) (M : gM) (hk0 : kd a0 = 3) (h : wX3_settlePromotions kd ln post a0 a1 M) : gMV l D cy yX3_settlePromotions cX3_settlePromotions 4 1 22 [.ref (gad a0), .int (gI a1)] kd ln rh M post := by
  refine gMV_of (own := RX3) (by decide) rfl (Nat.le_of_ble_eq_true rfl) ?_
  intro p e s m args below meth c A H0 Q C hret
  have t12 : ∀ (n : Nat) (x2 : Int) (x3 : Int) (M : gM), wX3_settlePromotions_12 kd ln post a0 a1 n x2 x3 M → gW p l e (gRm 1 22) s m args below meth c D cy A H0 Q 4 kd ln rh 0 0 M 12 [(0, .ref (gad a0)), (1, .int (gI a1)), (2, .int (gI x2)), (3, .int (gI x3))] [] := by
    intro n
    induction n with
    | zero => intro x2 x3 M h; exact absurd h (by simp [wX3_settlePromotions_12])
    | succ n ih =>
      intro x2 x3 M h
      have hk12_ := ih
      rw [wX3_settlePromotions_12] at h
      refine q_iload_n C 3 rfl rfl dX3_settlePromotions_12 ?_
      obtain ⟨r8, h⟩ := h
      refine q_if_le (tgt := 45) C r8 (by decide) dX3_settlePromotions_13 (fun b9 => ?_) (fun b9 => ?_)
      · have h := h.1 b9
        exact hret M _ _ dX3_settlePromotions_45 h
      · have h := h.2 b9
        refine q_iload_n C 2 rfl rfl dX3_settlePromotions_16 ?_
        refine q_iconst C dX3_settlePromotions_17 ?_
        obtain ⟨r10, h⟩ := h
        refine q_icmp_eq (tgt := 45) C r10 (show rng (-1) by decide) (by decide) dX3_settlePromotions_18 (fun b11 => ?_) (fun b11 => ?_)
        · have h := h.1 b11
          exact hret M _ _ dX3_settlePromotions_45 h
        · have h := h.2 b11
          refine q_aload_n C 0 rfl rfl dX3_settlePromotions_21 ?_
          refine q_aload_n C 0 rfl rfl dX3_settlePromotions_22 ?_
          obtain ⟨r12, h⟩ := h
          refine q_get (v := .ref (rh a0 9)) C fX3_59 hk0 (if_neg (Int.not_lt.mpr r12)) dX3_settlePromotions_23 (fun g13 => ?_)
          refine q_iload_n C 2 rfl rfl dX3_settlePromotions_26 ?_
          obtain ⟨r14, h⟩ := h
          refine q_iald C hk0 rfl (fun _ q => q) r14 dX3_settlePromotions_27 (fun g15 => ?_)
          have h := h g15
          refine q_iload_n C 1 rfl rfl dX3_settlePromotions_28 ?_
          refine q_callVV (As := [.int (gI (M a0 9 x2)), .int (gI a1)]) (st := []) C vX3_90 kX3_settle ⟨Nat.le_of_ble_eq_true rfl, Nat.le_of_ble_eq_true rfl⟩ ⟨Nat.le_of_ble_eq_true rfl, Nat.le_of_ble_eq_true rfl⟩ rfl hk0 ⟨_, _, rfl⟩ (by decide) rfl (Nat.le_of_ble_eq_true rfl) (mX3_settle l D cy kd ln rh _ a0 (M a0 9 x2) a1 M hk0 h) dX3_settlePromotions_29 (fun M16 h => ?_)
          refine q_aload_n C 0 rfl rfl dX3_settlePromotions_32 ?_
          obtain ⟨r19, h⟩ := h
          refine q_get (v := .ref (rh a0 8)) C fX3_56 hk0 (if_neg (Int.not_lt.mpr r19)) dX3_settlePromotions_33 (fun g20 => ?_)
          refine q_iload_n C 2 rfl rfl dX3_settlePromotions_36 ?_
          obtain ⟨r21, h⟩ := h
          refine q_iald C hk0 rfl (fun _ q => q) r21 dX3_settlePromotions_37 (fun g22 => ?_)
          have h := h g22
          refine q_topi (fun v23 ev23 => ?_)
          have h := h v23 ev23
          have gv23 : rng v23 := by rw [ev23]; exact g22
          refine q_istore_n (lv' := [(2, .int (gI v23)), (0, .ref (gad a0)), (1, .int (gI a1)), (3, .int (gI x3))]) C rfl (by decide) rfl dX3_settlePromotions_38 ?_
          refine q_iinc (lv' := [(3, .int (gI (x3 + (-1)))), (2, .int (gI v23)), (0, .ref (gad a0)), (1, .int (gI a1))]) C 3 rfl (by decide) rfl dX3_settlePromotions_39 ?_
          refine q_goto (tgt := 12) C (by decide) dX3_settlePromotions_42 ?_
          refine q_lv (lv' := [(0, .ref (gad a0)), (1, .int (gI a1)), (2, .int (gI v23)), (3, .int (gI (x3 + (-1))))]) [2, 3, 1, 0] rfl ?_
          exact hk12_ v23 (x3 + (-1)) M16 h
  unfold wX3_settlePromotions at h
  refine q_aload_n C 0 rfl rfl dX3_settlePromotions_0 ?_
  obtain ⟨r1, h⟩ := h
  refine q_get (v := .ref (rh a0 7)) C fX3_9 hk0 (if_neg (Int.not_lt.mpr r1)) dX3_settlePromotions_1 (fun g2 => ?_)
  refine q_iload_n C 1 rfl rfl dX3_settlePromotions_4 ?_
  obtain ⟨r3, h⟩ := h
  refine q_iald C hk0 rfl (fun _ q => q) r3 dX3_settlePromotions_5 (fun g4 => ?_)
  have h := h g4
  refine q_topi (fun v5 ev5 => ?_)
  have h := h v5 ev5
  have gv5 : rng v5 := by rw [ev5]; exact g4
  refine q_istore_n (lv' := [(2, .int (gI v5)), (0, .ref (gad a0)), (1, .int (gI a1))]) C rfl (by decide) rfl dX3_settlePromotions_6 ?_
  refine q_aload_n C 1 rfl rfl dX3_settlePromotions_7 ?_
  refine q_get (v := .int (gI (M a0 10 (-1)))) C fX3_140 hk0 rfl dX3_settlePromotions_8 (fun g6 => ?_)
  have h := h g6
  refine q_topi (fun v7 ev7 => ?_)
  have h := h v7 ev7
  have gv7 : rng v7 := by rw [ev7]; exact g6
  refine q_istore_n (lv' := [(3, .int (gI v7)), (2, .int (gI v5)), (0, .ref (gad a0)), (1, .int (gI a1))]) C rfl (by decide) rfl dX3_settlePromotions_11 ?_
  refine q_lv (lv' := [(0, .ref (gad a0)), (1, .int (gI a1)), (2, .int (gI v5)), (3, .int (gI v7))]) [2, 3, 1, 0] rfl ?_
  obtain ⟨j12, h⟩ := h
  exact t12  j12 v5 v7 M h
set_option maxHeartbeats 4000000 in
set_option maxRecDepth 100000 in
theorem mX5_turnOf (l : Launch) (D : va_G) (cy : Nat → ClassId) (kd : gKd) (ln : gLn) (rh : gRh) (post : Int → gM → Prop) (a0 : Int) (M : gM)  (h : wX5_turnOf kd ln post a0 M) : gMI l D cy yX5_turnOf cX5_turnOf 1 .int 0 0 [.int (gI a0)] kd ln rh M post := by
  refine gMI_of (own := RX5) (by decide) rfl (Nat.le_of_ble_eq_true rfl) ?_
  intro p e s m args below meth c A H0 Q C hret
  unfold wX5_turnOf at h
  refine q_iload_n C 0 rfl rfl dX5_turnOf_0 ?_
  refine q_iconst C dX5_turnOf_1 ?_
  refine q_iand C dX5_turnOf_2 ?_
  obtain ⟨r1, h⟩ := h
  exact hret (giand a0 1) M _ _ dX5_turnOf_3 r1 h
set_option maxHeartbeats 4000000 in
set_option maxRecDepth 100000 in
theorem mX0_whiteTargets (l : Launch) (D : va_G) (cy : Nat → ClassId) (kd : gKd) (ln : gLn) (rh : gRh) (post : BitVec 64 → gM → Prop) (a0 : Int) (a1 : Int) (a2 : Int) (a3 : Int) (M : gM) (hk0 : kd a0 = 0) (h : wX0_whiteTargets kd ln post a0 a1 a2 a3 M) : gML l D cy yX0_whiteTargets cX0_whiteTargets 4 1 20 [.ref (gad a0), .int (gI a1), .int (gI a2), .int (gI a3)] kd ln rh M post := by
  refine gML_of (own := RX0) (by decide) rfl (Nat.le_of_ble_eq_true rfl) ?_
  intro p e s m args below meth c A H0 Q C hret
  unfold wX0_whiteTargets at h
  refine q_aload_n C 0 rfl rfl dX0_whiteTargets_0 ?_
  obtain ⟨r1, h⟩ := h
  refine q_get (v := .ref (rh a0 6)) C fX0_31 hk0 (if_neg (Int.not_lt.mpr r1)) dX0_whiteTargets_1 (fun g2 => ?_)
  refine q_iload_n C 1 rfl rfl dX0_whiteTargets_4 ?_
  obtain ⟨r3, h⟩ := h
  refine q_lald C hk0 rfl (fun _ q => q) r3 dX0_whiteTargets_5 (fun g4 => ?_)
  have h := h g4
  refine q_aload_n C 0 rfl rfl dX0_whiteTargets_6 ?_
  refine q_get (v := .ref (rh a0 6)) C fX0_31 hk0 (if_neg (Int.not_lt.mpr r1)) dX0_whiteTargets_7 (fun g5 => ?_)
  refine q_iload_n C 2 rfl rfl dX0_whiteTargets_10 ?_
  obtain ⟨r6, h⟩ := h
  refine q_lald C hk0 rfl (fun _ q => q) r6 dX0_whiteTargets_11 (fun g7 => ?_)
  have h := h g7
  refine q_ldc2 (b := 18446744073709551615) C nX0_92 (by decide) dX0_whiteTargets_12 ?_
  refine q_lxor C dX0_whiteTargets_15 ?_
  refine q_land C dX0_whiteTargets_16 ?_
  refine q_iload_n C 2 rfl rfl dX0_whiteTargets_17 ?_
  refine q_callNL (As := [.int (gI a2)]) (st := [.long (gL ((BitVec.ofInt 64 (M a0 6 a1)) &&& ((BitVec.ofInt 64 (M a0 6 a2)) ^^^ (18446744073709551615 : BitVec 64))))]) C vX0_62 kX6_bit ⟨Nat.le_of_ble_eq_true rfl, Nat.le_of_ble_eq_true rfl⟩ ⟨Nat.le_of_ble_eq_true rfl, Nat.le_of_ble_eq_true rfl⟩ rfl rfl (Nat.le_of_ble_eq_true rfl) (mX6_bit l D cy kd ln rh _ a2 M  h) dX0_whiteTargets_18 (fun c9 M8 h => ?_)
  refine q_ldc2 (b := 18446744073709551615) C nX0_92 (by decide) dX0_whiteTargets_21 ?_
  refine q_lxor C dX0_whiteTargets_24 ?_
  refine q_land C dX0_whiteTargets_25 ?_
  refine q_iload_n C 3 rfl rfl dX0_whiteTargets_26 ?_
  refine q_callNL (As := [.int (gI a3)]) (st := [.long (gL (((BitVec.ofInt 64 (M a0 6 a1)) &&& ((BitVec.ofInt 64 (M a0 6 a2)) ^^^ (18446744073709551615 : BitVec 64))) &&& (c9 ^^^ (18446744073709551615 : BitVec 64))))]) C vX0_62 kX6_bit ⟨Nat.le_of_ble_eq_true rfl, Nat.le_of_ble_eq_true rfl⟩ ⟨Nat.le_of_ble_eq_true rfl, Nat.le_of_ble_eq_true rfl⟩ rfl rfl (Nat.le_of_ble_eq_true rfl) (mX6_bit l D cy kd ln rh _ a3 M8  h) dX0_whiteTargets_27 (fun c12 M11 h => ?_)
  refine q_ldc2 (b := 18446744073709551615) C nX0_92 (by decide) dX0_whiteTargets_30 ?_
  refine q_lxor C dX0_whiteTargets_33 ?_
  refine q_land C dX0_whiteTargets_34 ?_
  exact hret ((((BitVec.ofInt 64 (M a0 6 a1)) &&& ((BitVec.ofInt 64 (M a0 6 a2)) ^^^ (18446744073709551615 : BitVec 64))) &&& (c9 ^^^ (18446744073709551615 : BitVec 64))) &&& (c12 ^^^ (18446744073709551615 : BitVec 64))) M11 _ _ dX0_whiteTargets_35 h
set_option maxHeartbeats 4000000 in
set_option maxRecDepth 100000 in
theorem mX6_lowest (l : Launch) (D : va_G) (cy : Nat → ClassId) (kd : gKd) (ln : gLn) (rh : gRh) (post : Int → gM → Prop) (a0 : BitVec 64) (M : gM)  (h : wX6_lowest kd ln post a0 M) : gMI l D cy yX6_lowest cX6_lowest 2 .int 1 21 [.long (gL a0)] kd ln rh M post := by
  refine gMI_of (own := RX6) (by decide) rfl (Nat.le_of_ble_eq_true rfl) ?_
  intro p e s m args below meth c A H0 Q C hret
  unfold wX6_lowest at h
  refine q_lload_n C 0 rfl rfl dX6_lowest_0 ?_
  refine q_lload_n C 0 rfl rfl dX6_lowest_1 ?_
  refine q_lneg C dX6_lowest_2 ?_
  refine q_land C dX6_lowest_3 ?_
  refine q_lconst (b := 1) C rfl dX6_lowest_4 ?_
  refine q_lsub C dX6_lowest_5 ?_
  refine q_callSI (As := [.long (gL ((a0 &&& (-a0)) - (1 : BitVec 64)))]) (st := []) C vX6_78 kJ13_bitCount_95d88 ⟨Nat.le_of_ble_eq_true rfl, Nat.le_of_ble_eq_true rfl⟩ ⟨Nat.le_of_ble_eq_true rfl, Nat.le_of_ble_eq_true rfl⟩ rfl rfl (Nat.le_of_ble_eq_true rfl) (mJ13_bitCount_95d88 l D cy kd ln rh _ ((a0 &&& (-a0)) - (1 : BitVec 64)) M  h) dX6_lowest_6 (fun c2 M1 g3 h => ?_)
  have h := h g3
  exact hret c2 M1 _ _ dX6_lowest_9 g3 h
set_option maxHeartbeats 4000000 in
set_option maxRecDepth 100000 in
theorem mX3_takeKingBack (l : Launch) (D : va_G) (cy : Nat → ClassId) (kd : gKd) (ln : gLn) (rh : gRh) (post : gM → Prop) (a0 : Int) (a1 : Int) (a2 : Int) (a3 : Int) (a4 : Int) (M : gM) (hk0 : kd a0 = 3) (h : wX3_takeKingBack kd ln post a0 a1 a2 a3 a4 M) : gMV l D cy yX3_takeKingBack cX3_takeKingBack 7 2 49 [.ref (gad a0), .int (gI a1), .int (gI a2), .int (gI a3), .int (gI a4)] kd ln rh M post := by
  refine gMV_of (own := RX3) (by decide) rfl (Nat.le_of_ble_eq_true rfl) ?_
  intro p e s m args below meth c A H0 Q C hret
  have t12 : ∀ (n : Nat) (x5 : BitVec 64) (M : gM), wX3_takeKingBack_12 kd ln post a0 a1 a2 a3 a4 n x5 M → gW p l e (gRm 2 49) s m args below meth c D cy A H0 Q 7 kd ln rh 0 0 M 12 [(0, .ref (gad a0)), (2, .int (gI a2)), (3, .int (gI a3)), (4, .int (gI a4)), (5, .long (gL x5))] [] := by
    intro n
    induction n with
    | zero => intro x5 M h; exact absurd h (by simp [wX3_takeKingBack_12])
    | succ n ih =>
      intro x5 M h
      have hk12_ := ih
      rw [wX3_takeKingBack_12] at h
      refine q_lload C 4 rfl dX3_takeKingBack_12 ?_
      refine q_lconst (b := 0) C rfl dX3_takeKingBack_14 ?_
      refine q_lcmp C dX3_takeKingBack_15 ?_
      refine q_if_eq (tgt := 52) C (rng_of _) (by decide) dX3_takeKingBack_16 (fun b6 => ?_) (fun b6 => ?_)
      · have h := h.1 b6
        exact hret M _ _ dX3_takeKingBack_52 h
      · have h := h.2 b6
        refine q_aload_n C 0 rfl rfl dX3_takeKingBack_19 ?_
        refine q_aload_n C 0 rfl rfl dX3_takeKingBack_20 ?_
        refine q_get (v := gR (M a0 2 (-1))) C fX3_29 hk0 rfl dX3_takeKingBack_21 (fun g7 => ?_)
        obtain ⟨r8, h⟩ := h
        refine q_nn r8 (by decide) ?_
        refine q_lload C 4 rfl dX3_takeKingBack_24 ?_
        refine q_callNI (As := [.long (gL x5)]) (st := [.ref (gad (M a0 2 (-1))), .ref (gad a0)]) C vX3_160 kX6_lowest ⟨Nat.le_of_ble_eq_true rfl, Nat.le_of_ble_eq_true rfl⟩ ⟨Nat.le_of_ble_eq_true rfl, Nat.le_of_ble_eq_true rfl⟩ rfl rfl (Nat.le_of_ble_eq_true rfl) (mX6_lowest l D cy kd ln rh _ x5 M  h) dX3_takeKingBack_26 (fun c10 M9 g11 h => ?_)
        have h := h g11
        refine q_iload_n C 1 rfl rfl dX3_takeKingBack_29 ?_
        refine q_iload_n C 2 rfl rfl dX3_takeKingBack_30 ?_
        refine q_iconst C dX3_takeKingBack_31 ?_
        refine q_callVI (As := [.int (gI c10), .int (gI a2), .int (gI a3), .int (gI 0)]) (st := [.ref (gad a0)]) C vX3_164 kX2_cellOf ⟨Nat.le_of_ble_eq_true rfl, Nat.le_of_ble_eq_true rfl⟩ ⟨Nat.le_of_ble_eq_true rfl, Nat.le_of_ble_eq_true rfl⟩ rfl r8 ⟨_, _, rfl⟩ (by decide) rfl (Nat.le_of_ble_eq_true rfl) (mX2_cellOf l D cy kd ln rh _ (M a0 2 (-1)) c10 a2 a3 0 M9 r8 h) dX3_takeKingBack_32 (fun c13 M12 g14 h => ?_)
        have h := h g14
        refine q_iload C 3 rfl dX3_takeKingBack_35 ?_
        refine q_callVV (As := [.int (gI c13), .int (gI a4)]) (st := []) C vX3_90 kX3_settle ⟨Nat.le_of_ble_eq_true rfl, Nat.le_of_ble_eq_true rfl⟩ ⟨Nat.le_of_ble_eq_true rfl, Nat.le_of_ble_eq_true rfl⟩ rfl hk0 ⟨_, _, rfl⟩ (by decide) rfl (Nat.le_of_ble_eq_true rfl) (mX3_settle l D cy kd ln rh _ a0 c13 a4 M12 hk0 h) dX3_takeKingBack_37 (fun M15 h => ?_)
        refine q_lload C 4 rfl dX3_takeKingBack_40 ?_
        refine q_lload C 4 rfl dX3_takeKingBack_42 ?_
        refine q_lconst (b := 1) C rfl dX3_takeKingBack_44 ?_
        refine q_lsub C dX3_takeKingBack_45 ?_
        refine q_land C dX3_takeKingBack_46 ?_
        refine q_topl (fun v18 ev18 => ?_)
        have h := h v18 ev18
        refine q_lstore (lv' := [(5, .long (gL v18)), (0, .ref (gad a0)), (2, .int (gI a2)), (3, .int (gI a3)), (4, .int (gI a4))]) C (by decide) rfl dX3_takeKingBack_47 ?_
        refine q_goto (tgt := 12) C (by decide) dX3_takeKingBack_49 ?_
        refine q_lv (lv' := [(0, .ref (gad a0)), (2, .int (gI a2)), (3, .int (gI a3)), (4, .int (gI a4)), (5, .long (gL v18))]) [1, 2, 3, 4, 0] rfl ?_
        exact hk12_ v18 M15 h
  unfold wX3_takeKingBack at h
  refine q_aload_n C 0 rfl rfl dX3_takeKingBack_0 ?_
  refine q_get (v := gR (M a0 0 (-1))) C fX3_15 hk0 rfl dX3_takeKingBack_1 (fun g1 => ?_)
  obtain ⟨r2, h⟩ := h
  refine q_nn r2 (by decide) ?_
  refine q_iload_n C 1 rfl rfl dX3_takeKingBack_4 ?_
  refine q_iload_n C 2 rfl rfl dX3_takeKingBack_5 ?_
  refine q_iload_n C 3 rfl rfl dX3_takeKingBack_6 ?_
  refine q_callVL (As := [.int (gI a1), .int (gI a2), .int (gI a3)]) (st := []) C vX3_156 kX0_whiteTargets ⟨Nat.le_of_ble_eq_true rfl, Nat.le_of_ble_eq_true rfl⟩ ⟨Nat.le_of_ble_eq_true rfl, Nat.le_of_ble_eq_true rfl⟩ rfl r2 ⟨_, _, rfl⟩ (by decide) rfl (Nat.le_of_ble_eq_true rfl) (mX0_whiteTargets l D cy kd ln rh _ (M a0 0 (-1)) a1 a2 a3 M r2 h) dX3_takeKingBack_7 (fun c4 M3 h => ?_)
  refine q_lstore (lv' := [(5, .long (gL c4)), (0, .ref (gad a0)), (1, .int (gI a1)), (2, .int (gI a2)), (3, .int (gI a3)), (4, .int (gI a4))]) C (by decide) rfl dX3_takeKingBack_10 ?_
  refine q_lv (lv' := [(0, .ref (gad a0)), (2, .int (gI a2)), (3, .int (gI a3)), (4, .int (gI a4)), (5, .long (gL c4))]) [1, 3, 4, 5, 0] rfl ?_
  obtain ⟨j12, h⟩ := h
  exact t12  j12 c4 M3 h
set_option maxHeartbeats 4000000 in
set_option maxRecDepth 100000 in
theorem mX3_takeManBack (l : Launch) (D : va_G) (cy : Nat → ClassId) (kd : gKd) (ln : gLn) (rh : gRh) (post : gM → Prop) (a0 : Int) (a1 : Int) (a2 : Int) (a3 : Int) (a4 : Int) (M : gM) (hk0 : kd a0 = 3) (h : wX3_takeManBack kd ln post a0 a1 a2 a3 a4 M) : gMV l D cy yX3_takeManBack cX3_takeManBack 9 2 49 [.ref (gad a0), .int (gI a1), .int (gI a2), .int (gI a3), .int (gI a4)] kd ln rh M post := by
  refine gMV_of (own := RX3) (by decide) rfl (Nat.le_of_ble_eq_true rfl) ?_
  intro p e s m args below meth c A H0 Q C hret
  have t41 : ∀ (n : Nat) (x7 : BitVec 64) (M : gM), wX3_takeManBack_41 kd ln post a0 a1 a2 a3 a4 n x7 M → gW p l e (gRm 2 49) s m args below meth c D cy A H0 Q 9 kd ln rh 0 0 M 41 [(0, .ref (gad a0)), (1, .int (gI a1)), (2, .int (gI a2)), (4, .int (gI a4)), (7, .long (gL x7))] [] := by
    intro n
    induction n with
    | zero => intro x7 M h; exact absurd h (by simp [wX3_takeManBack_41])
    | succ n ih =>
      intro x7 M h
      have hk41_ := ih
      rw [wX3_takeManBack_41] at h
      refine q_lload C 4 rfl dX3_takeManBack_41 ?_
      refine q_lconst (b := 0) C rfl dX3_takeManBack_43 ?_
      refine q_lcmp C dX3_takeManBack_44 ?_
      refine q_if_eq (tgt := 81) C (rng_of _) (by decide) dX3_takeManBack_45 (fun b14 => ?_) (fun b14 => ?_)
      · have h := h.1 b14
        exact hret M _ _ dX3_takeManBack_81 h
      · have h := h.2 b14
        refine q_aload_n C 0 rfl rfl dX3_takeManBack_48 ?_
        refine q_aload_n C 0 rfl rfl dX3_takeManBack_49 ?_
        refine q_get (v := gR (M a0 2 (-1))) C fX3_29 hk0 rfl dX3_takeManBack_50 (fun g15 => ?_)
        obtain ⟨r16, h⟩ := h
        refine q_nn r16 (by decide) ?_
        refine q_iload_n C 1 rfl rfl dX3_takeManBack_53 ?_
        refine q_iload_n C 2 rfl rfl dX3_takeManBack_54 ?_
        refine q_lload C 4 rfl dX3_takeManBack_55 ?_
        refine q_callNI (As := [.long (gL x7)]) (st := [.int (gI a2), .int (gI a1), .ref (gad (M a0 2 (-1))), .ref (gad a0)]) C vX3_160 kX6_lowest ⟨Nat.le_of_ble_eq_true rfl, Nat.le_of_ble_eq_true rfl⟩ ⟨Nat.le_of_ble_eq_true rfl, Nat.le_of_ble_eq_true rfl⟩ rfl rfl (Nat.le_of_ble_eq_true rfl) (mX6_lowest l D cy kd ln rh _ x7 M  h) dX3_takeManBack_57 (fun c18 M17 g19 h => ?_)
        have h := h g19
        refine q_iconst C dX3_takeManBack_60 ?_
        refine q_callVI (As := [.int (gI a1), .int (gI a2), .int (gI c18), .int (gI 0)]) (st := [.ref (gad a0)]) C vX3_164 kX2_cellOf ⟨Nat.le_of_ble_eq_true rfl, Nat.le_of_ble_eq_true rfl⟩ ⟨Nat.le_of_ble_eq_true rfl, Nat.le_of_ble_eq_true rfl⟩ rfl r16 ⟨_, _, rfl⟩ (by decide) rfl (Nat.le_of_ble_eq_true rfl) (mX2_cellOf l D cy kd ln rh _ (M a0 2 (-1)) a1 a2 c18 0 M17 r16 h) dX3_takeManBack_61 (fun c21 M20 g22 h => ?_)
        have h := h g22
        refine q_iload C 3 rfl dX3_takeManBack_64 ?_
        refine q_callVV (As := [.int (gI c21), .int (gI a4)]) (st := []) C vX3_90 kX3_settle ⟨Nat.le_of_ble_eq_true rfl, Nat.le_of_ble_eq_true rfl⟩ ⟨Nat.le_of_ble_eq_true rfl, Nat.le_of_ble_eq_true rfl⟩ rfl hk0 ⟨_, _, rfl⟩ (by decide) rfl (Nat.le_of_ble_eq_true rfl) (mX3_settle l D cy kd ln rh _ a0 c21 a4 M20 hk0 h) dX3_takeManBack_66 (fun M23 h => ?_)
        refine q_lload C 4 rfl dX3_takeManBack_69 ?_
        refine q_lload C 4 rfl dX3_takeManBack_71 ?_
        refine q_lconst (b := 1) C rfl dX3_takeManBack_73 ?_
        refine q_lsub C dX3_takeManBack_74 ?_
        refine q_land C dX3_takeManBack_75 ?_
        refine q_topl (fun v26 ev26 => ?_)
        have h := h v26 ev26
        refine q_lstore (lv' := [(7, .long (gL v26)), (0, .ref (gad a0)), (1, .int (gI a1)), (2, .int (gI a2)), (4, .int (gI a4))]) C (by decide) rfl dX3_takeManBack_76 ?_
        refine q_goto (tgt := 41) C (by decide) dX3_takeManBack_78 ?_
        refine q_lv (lv' := [(0, .ref (gad a0)), (1, .int (gI a1)), (2, .int (gI a2)), (4, .int (gI a4)), (7, .long (gL v26))]) [1, 2, 3, 4, 0] rfl ?_
        exact hk41_ v26 M23 h
  have t35 : ∀ (y0 : BitVec 64) (M : gM), wX3_takeManBack_35 kd ln post a0 a1 a2 a3 a4 y0 M → gW p l e (gRm 2 49) s m args below meth c D cy A H0 Q 9 kd ln rh 0 0 M 35 [(0, .ref (gad a0)), (1, .int (gI a1)), (2, .int (gI a2)), (4, .int (gI a4))] [.long (gL y0)] := by
    intro  y0 M h
    unfold wX3_takeManBack_35 at h
    refine q_lstore (lv' := [(5, .long (gL y0)), (0, .ref (gad a0)), (1, .int (gI a1)), (2, .int (gI a2)), (4, .int (gI a4))]) C (by decide) rfl dX3_takeManBack_35 ?_
    refine q_lload C 0 rfl dX3_takeManBack_37 ?_
    refine q_lstore (lv' := [(7, .long (gL y0)), (5, .long (gL y0)), (0, .ref (gad a0)), (1, .int (gI a1)), (2, .int (gI a2)), (4, .int (gI a4))]) C (by decide) rfl dX3_takeManBack_39 ?_
    refine q_lv (lv' := [(0, .ref (gad a0)), (1, .int (gI a1)), (2, .int (gI a2)), (4, .int (gI a4)), (7, .long (gL y0))]) [2, 3, 4, 5, 0] rfl ?_
    obtain ⟨j41, h⟩ := h
    exact t41  j41 y0 M h
  unfold wX3_takeManBack at h
  refine q_aload_n C 0 rfl rfl dX3_takeManBack_0 ?_
  refine q_get (v := .int (gI (M a0 4 (-1)))) C fX3_39 hk0 rfl dX3_takeManBack_1 (fun g1 => ?_)
  have h := h g1
  refine q_iconst C dX3_takeManBack_4 ?_
  refine q_icmp_ne (tgt := 21) C g1 (show rng 2 by decide) (by decide) dX3_takeManBack_5 (fun b2 => ?_) (fun b2 => ?_)
  · have h := h.1 b2
    refine q_aload_n C 0 rfl rfl dX3_takeManBack_21 ?_
    refine q_get (v := gR (M a0 0 (-1))) C fX3_15 hk0 rfl dX3_takeManBack_22 (fun g3 => ?_)
    obtain ⟨r4, h⟩ := h
    refine q_nn r4 (by decide) ?_
    refine q_aload_n C 0 rfl rfl dX3_takeManBack_25 ?_
    refine q_get (v := .int (gI (M a0 4 (-1)))) C fX3_39 hk0 rfl dX3_takeManBack_26 (fun g5 => ?_)
    refine q_iload_n C 1 rfl rfl dX3_takeManBack_29 ?_
    refine q_iload_n C 2 rfl rfl dX3_takeManBack_30 ?_
    refine q_iload_n C 3 rfl rfl dX3_takeManBack_31 ?_
    refine q_callVL (As := [.int (gI (M a0 4 (-1))), .int (gI a1), .int (gI a2), .int (gI a3)]) (st := []) C vX3_170 kX0_glides ⟨Nat.le_of_ble_eq_true rfl, Nat.le_of_ble_eq_true rfl⟩ ⟨Nat.le_of_ble_eq_true rfl, Nat.le_of_ble_eq_true rfl⟩ rfl r4 ⟨_, _, rfl⟩ (by decide) rfl (Nat.le_of_ble_eq_true rfl) (mX0_glides l D cy kd ln rh _ (M a0 0 (-1)) (M a0 4 (-1)) a1 a2 a3 M r4 h) dX3_takeManBack_32 (fun c7 M6 h => ?_)
    refine q_lv (lv' := [(0, .ref (gad a0)), (1, .int (gI a1)), (2, .int (gI a2)), (4, .int (gI a4))]) [0, 1, 2, 4] rfl ?_
    exact t35  c7 M6 h
  · have h := h.2 b2
    refine q_aload_n C 0 rfl rfl dX3_takeManBack_8 ?_
    refine q_get (v := gR (M a0 0 (-1))) C fX3_15 hk0 rfl dX3_takeManBack_9 (fun g9 => ?_)
    obtain ⟨r10, h⟩ := h
    refine q_nn r10 (by decide) ?_
    refine q_iload_n C 1 rfl rfl dX3_takeManBack_12 ?_
    refine q_iload_n C 2 rfl rfl dX3_takeManBack_13 ?_
    refine q_iload_n C 3 rfl rfl dX3_takeManBack_14 ?_
    refine q_callVL (As := [.int (gI a1), .int (gI a2), .int (gI a3)]) (st := []) C vX3_167 kX0_pawnSources ⟨Nat.le_of_ble_eq_true rfl, Nat.le_of_ble_eq_true rfl⟩ ⟨Nat.le_of_ble_eq_true rfl, Nat.le_of_ble_eq_true rfl⟩ rfl r10 ⟨_, _, rfl⟩ (by decide) rfl (Nat.le_of_ble_eq_true rfl) (mX0_pawnSources l D cy kd ln rh _ (M a0 0 (-1)) a1 a2 a3 M r10 h) dX3_takeManBack_15 (fun c12 M11 h => ?_)
    refine q_goto (tgt := 35) C (by decide) dX3_takeManBack_18 ?_
    refine q_lv (lv' := [(0, .ref (gad a0)), (1, .int (gI a1)), (2, .int (gI a2)), (4, .int (gI a4))]) [0, 1, 2, 4] rfl ?_
    exact t35  c12 M11 h
set_option maxHeartbeats 4000000 in
set_option maxRecDepth 100000 in
theorem mX3_isLost (l : Launch) (D : va_G) (cy : Nat → ClassId) (kd : gKd) (ln : gLn) (rh : gRh) (post : Int → gM → Prop) (a0 : Int) (a1 : Int) (a2 : Int) (a3 : Int) (M : gM) (hk0 : kd a0 = 3) (h : wX3_isLost kd ln post a0 a1 a2 a3 M) : gMI l D cy yX3_isLost cX3_isLost 9 .boolean 2 49 [.ref (gad a0), .int (gI a1), .int (gI a2), .int (gI a3)] kd ln rh M post := by
  refine gMI_ofZ (own := RX3) (by decide) rfl (Nat.le_of_ble_eq_true rfl) ?_
  intro p e s m args below meth c A H0 Q C hret
  have t31 : ∀ (n : Nat) (x6 : BitVec 64) (M : gM), wX3_isLost_31 kd ln post a0 a1 a2 a3 n x6 M → gW p l e (gRm 2 49) s m args below meth c D cy A H0 Q 9 kd ln rh 0 0 M 31 [(0, .ref (gad a0)), (1, .int (gI a1)), (3, .int (gI a3)), (6, .long (gL x6))] [] := by
    intro n
    induction n with
    | zero => intro x6 M h; exact absurd h (by simp [wX3_isLost_31])
    | succ n ih =>
      intro x6 M h
      have hk31_ := ih
      rw [wX3_isLost_31] at h
      refine q_lload C 3 rfl dX3_isLost_31 ?_
      refine q_lconst (b := 0) C rfl dX3_isLost_33 ?_
      refine q_lcmp C dX3_isLost_34 ?_
      refine q_if_eq (tgt := 85) C (rng_of _) (by decide) dX3_isLost_35 (fun b11 => ?_) (fun b11 => ?_)
      · have h := h.1 b11
        refine q_iconst C dX3_isLost_85 ?_
        exact hret 1 M _ _ dX3_isLost_86 (Or.inr rfl) h
      · have h := h.2 b11
        refine q_aload_n C 0 rfl rfl dX3_isLost_38 ?_
        refine q_get (v := gR (M a0 2 (-1))) C fX3_29 hk0 rfl dX3_isLost_39 (fun g12 => ?_)
        obtain ⟨r13, h⟩ := h
        refine q_nn r13 (by decide) ?_
        refine q_iload_n C 1 rfl rfl dX3_isLost_42 ?_
        refine q_lload C 3 rfl dX3_isLost_43 ?_
        refine q_callNI (As := [.long (gL x6)]) (st := [.int (gI a1), .ref (gad (M a0 2 (-1)))]) C vX3_160 kX6_lowest ⟨Nat.le_of_ble_eq_true rfl, Nat.le_of_ble_eq_true rfl⟩ ⟨Nat.le_of_ble_eq_true rfl, Nat.le_of_ble_eq_true rfl⟩ rfl rfl (Nat.le_of_ble_eq_true rfl) (mX6_lowest l D cy kd ln rh _ x6 M  h) dX3_isLost_45 (fun c15 M14 g16 h => ?_)
        have h := h g16
        refine q_iload_n C 2 rfl rfl dX3_isLost_48 ?_
        refine q_iconst C dX3_isLost_49 ?_
        refine q_callVI (As := [.int (gI a1), .int (gI c15), .int (gI a3), .int (gI 0)]) (st := []) C vX3_164 kX2_cellOf ⟨Nat.le_of_ble_eq_true rfl, Nat.le_of_ble_eq_true rfl⟩ ⟨Nat.le_of_ble_eq_true rfl, Nat.le_of_ble_eq_true rfl⟩ rfl r13 ⟨_, _, rfl⟩ (by decide) rfl (Nat.le_of_ble_eq_true rfl) (mX2_cellOf l D cy kd ln rh _ (M a0 2 (-1)) a1 c15 a3 0 M14 r13 h) dX3_isLost_50 (fun c18 M17 g19 h => ?_)
        have h := h g19
        refine q_istore (lv' := [(8, .int (gI c18)), (0, .ref (gad a0)), (1, .int (gI a1)), (3, .int (gI a3)), (6, .long (gL x6))]) C (by decide) rfl dX3_isLost_53 ?_
        refine q_iload C 0 rfl dX3_isLost_55 ?_
        refine q_iconst C dX3_isLost_57 ?_
        refine q_icmp_eq (tgt := 71) C g19 (show rng (-1) by decide) (by decide) dX3_isLost_58 (fun b20 => ?_) (fun b20 => ?_)
        · have h := h.1 b20
          refine q_iconst C dX3_isLost_71 ?_
          exact hret 0 M17 _ _ dX3_isLost_72 (Or.inl rfl) h
        · have h := h.2 b20
          refine q_aload_n C 1 rfl rfl dX3_isLost_61 ?_
          obtain ⟨r22, h⟩ := h
          obtain ⟨r23, h⟩ := h
          obtain ⟨r24, h⟩ := h
          refine q_get (v := .ref (rh (M17 a0 3 (-1)) 1)) C fX3_34 hk0 (if_neg r22) dX3_isLost_62 (fun g21 => ?_)
          refine q_iload C 0 rfl dX3_isLost_65 ?_
          obtain ⟨r25, h⟩ := h
          refine q_bald C r23 rfl (fun _ q => q) r25 dX3_isLost_67 (fun g26 => ?_)
          have h := h g26
          refine q_if_ge (tgt := 73) C g26 (by decide) dX3_isLost_68 (fun b27 => ?_) (fun b27 => ?_)
          · have h := h.1 b27
            refine q_lload C 4 rfl dX3_isLost_73 ?_
            refine q_lload C 4 rfl dX3_isLost_75 ?_
            refine q_lconst (b := 1) C rfl dX3_isLost_77 ?_
            refine q_lsub C dX3_isLost_78 ?_
            refine q_land C dX3_isLost_79 ?_
            refine q_topl (fun v28 ev28 => ?_)
            have h := h v28 ev28
            refine q_lstore (lv' := [(6, .long (gL v28)), (8, .int (gI c18)), (0, .ref (gad a0)), (1, .int (gI a1)), (3, .int (gI a3))]) C (by decide) rfl dX3_isLost_80 ?_
            refine q_goto (tgt := 31) C (by decide) dX3_isLost_82 ?_
            refine q_lv (lv' := [(0, .ref (gad a0)), (1, .int (gI a1)), (3, .int (gI a3)), (6, .long (gL v28))]) [2, 3, 4, 0] rfl ?_
            exact hk31_ v28 M17 h
          · have h := h.2 b27
            refine q_iconst C dX3_isLost_71 ?_
            exact hret 0 M17 _ _ dX3_isLost_72 (Or.inl rfl) h
  unfold wX3_isLost at h
  refine q_aload_n C 0 rfl rfl dX3_isLost_0 ?_
  refine q_get (v := gR (M a0 0 (-1))) C fX3_15 hk0 rfl dX3_isLost_1 (fun g1 => ?_)
  obtain ⟨r2, h⟩ := h
  refine q_nn r2 (by decide) ?_
  refine q_aload_n C 0 rfl rfl dX3_isLost_4 ?_
  refine q_get (v := .int (gI (M a0 4 (-1)))) C fX3_39 hk0 rfl dX3_isLost_5 (fun g3 => ?_)
  have h := h g3
  refine q_iload_n C 1 rfl rfl dX3_isLost_8 ?_
  refine q_iload_n C 2 rfl rfl dX3_isLost_9 ?_
  refine q_iload_n C 3 rfl rfl dX3_isLost_10 ?_
  refine q_callVL (As := [.int (gI (M a0 4 (-1))), .int (gI a1), .int (gI a2), .int (gI a3)]) (st := []) C vX3_110 kX0_blackTargets ⟨Nat.le_of_ble_eq_true rfl, Nat.le_of_ble_eq_true rfl⟩ ⟨Nat.le_of_ble_eq_true rfl, Nat.le_of_ble_eq_true rfl⟩ rfl r2 ⟨_, _, rfl⟩ (by decide) rfl (Nat.le_of_ble_eq_true rfl) (mX0_blackTargets l D cy kd ln rh _ (M a0 0 (-1)) (M a0 4 (-1)) a1 a2 a3 M r2 h) dX3_isLost_11 (fun c5 M4 h => ?_)
  refine q_lstore (lv' := [(4, .long (gL c5)), (0, .ref (gad a0)), (1, .int (gI a1)), (2, .int (gI a2)), (3, .int (gI a3))]) C (by decide) rfl dX3_isLost_14 ?_
  refine q_lload C 0 rfl dX3_isLost_16 ?_
  refine q_iload_n C 4 rfl rfl dX3_isLost_18 ?_
  refine q_callNI (As := [.long (gL c5), .int (gI a3)]) (st := []) C vX3_180 kX6_has ⟨Nat.le_of_ble_eq_true rfl, Nat.le_of_ble_eq_true rfl⟩ ⟨Nat.le_of_ble_eq_true rfl, Nat.le_of_ble_eq_true rfl⟩ rfl rfl (Nat.le_of_ble_eq_true rfl) (mX6_has l D cy kd ln rh _ c5 a3 M4  h) dX3_isLost_19 (fun c8 M7 g9 h => ?_)
  have h := h g9
  refine q_if_eq (tgt := 27) C g9 (by decide) dX3_isLost_22 (fun b10 => ?_) (fun b10 => ?_)
  · have h := h.1 b10
    refine q_lload C 0 rfl dX3_isLost_27 ?_
    refine q_lstore (lv' := [(6, .long (gL c5)), (4, .long (gL c5)), (0, .ref (gad a0)), (1, .int (gI a1)), (2, .int (gI a2)), (3, .int (gI a3))]) C (by decide) rfl dX3_isLost_29 ?_
    refine q_lv (lv' := [(0, .ref (gad a0)), (1, .int (gI a1)), (3, .int (gI a3)), (6, .long (gL c5))]) [2, 3, 5, 0] rfl ?_
    obtain ⟨j31, h⟩ := h
    exact t31  j31 c5 M7 h
  · have h := h.2 b10
    refine q_iconst C dX3_isLost_25 ?_
    exact hret 0 M7 _ _ dX3_isLost_26 (Or.inl rfl) h
set_option maxHeartbeats 4000000 in
set_option maxRecDepth 100000 in
theorem mX3_takeBlackBack (l : Launch) (D : va_G) (cy : Nat → ClassId) (kd : gKd) (ln : gLn) (rh : gRh) (post : gM → Prop) (a0 : Int) (a1 : Int) (a2 : Int) (a3 : Int) (a4 : Int) (M : gM) (hk0 : kd a0 = 3) (h : wX3_takeBlackBack kd ln post a0 a1 a2 a3 a4 M) : gMV l D cy yX3_takeBlackBack cX3_takeBlackBack 9 3 77 [.ref (gad a0), .int (gI a1), .int (gI a2), .int (gI a3), .int (gI a4)] kd ln rh M post := by
  refine gMV_of (own := RX3) (by decide) rfl (Nat.le_of_ble_eq_true rfl) ?_
  intro p e s m args below meth c A H0 Q C hret
  have t76 : ∀ (k12 : BitVec 64 → gM → Prop), (∀ (x5 : BitVec 64), ∀ (M : gM), k12 x5 M → gW p l e (gRm 3 77) s m args below meth c D cy A H0 Q 9 kd ln rh 0 0 M 12 [(0, .ref (gad a0)), (1, .int (gI a1)), (3, .int (gI a3)), (4, .int (gI a4)), (5, .long (gL x5))] []) → ∀ (x5 : BitVec 64) (M : gM), wX3_takeBlackBack_76 kd ln post a0 a1 a2 a3 a4 k12 x5 M → gW p l e (gRm 3 77) s m args below meth c D cy A H0 Q 9 kd ln rh 0 0 M 76 [(0, .ref (gad a0)), (1, .int (gI a1)), (3, .int (gI a3)), (4, .int (gI a4)), (5, .long (gL x5))] [] := by
    intro k12 hk12_ x5 M h
    unfold wX3_takeBlackBack_76 at h
    refine q_lload C 4 rfl dX3_takeBlackBack_76 ?_
    refine q_lload C 4 rfl dX3_takeBlackBack_78 ?_
    refine q_lconst (b := 1) C rfl dX3_takeBlackBack_80 ?_
    refine q_lsub C dX3_takeBlackBack_81 ?_
    refine q_land C dX3_takeBlackBack_82 ?_
    refine q_topl (fun v30 ev30 => ?_)
    have h := h v30 ev30
    refine q_lstore (lv' := [(5, .long (gL v30)), (0, .ref (gad a0)), (1, .int (gI a1)), (3, .int (gI a3)), (4, .int (gI a4))]) C (by decide) rfl dX3_takeBlackBack_83 ?_
    refine q_goto (tgt := 12) C (by decide) dX3_takeBlackBack_85 ?_
    refine q_lv (lv' := [(0, .ref (gad a0)), (1, .int (gI a1)), (3, .int (gI a3)), (4, .int (gI a4)), (5, .long (gL v30))]) [1, 2, 3, 4, 0] rfl ?_
    exact hk12_ v30 M h
  have t12 : ∀ (n : Nat) (x5 : BitVec 64) (M : gM), wX3_takeBlackBack_12 kd ln post a0 a1 a2 a3 a4 n x5 M → gW p l e (gRm 3 77) s m args below meth c D cy A H0 Q 9 kd ln rh 0 0 M 12 [(0, .ref (gad a0)), (1, .int (gI a1)), (3, .int (gI a3)), (4, .int (gI a4)), (5, .long (gL x5))] [] := by
    intro n
    induction n with
    | zero => intro x5 M h; exact absurd h (by simp [wX3_takeBlackBack_12])
    | succ n ih =>
      intro x5 M h
      have hk12_ := ih
      rw [wX3_takeBlackBack_12] at h
      refine q_lload C 4 rfl dX3_takeBlackBack_12 ?_
      refine q_lconst (b := 0) C rfl dX3_takeBlackBack_14 ?_
      refine q_lcmp C dX3_takeBlackBack_15 ?_
      refine q_if_eq (tgt := 88) C (rng_of _) (by decide) dX3_takeBlackBack_16 (fun b6 => ?_) (fun b6 => ?_)
      · have h := h.1 b6
        exact hret M _ _ dX3_takeBlackBack_88 h
      · have h := h.2 b6
        refine q_lload C 4 rfl dX3_takeBlackBack_19 ?_
        refine q_callNI (As := [.long (gL x5)]) (st := []) C vX3_160 kX6_lowest ⟨Nat.le_of_ble_eq_true rfl, Nat.le_of_ble_eq_true rfl⟩ ⟨Nat.le_of_ble_eq_true rfl, Nat.le_of_ble_eq_true rfl⟩ rfl rfl (Nat.le_of_ble_eq_true rfl) (mX6_lowest l D cy kd ln rh _ x5 M  h) dX3_takeBlackBack_21 (fun c8 M7 g9 h => ?_)
        have h := h g9
        refine q_istore (lv' := [(7, .int (gI c8)), (0, .ref (gad a0)), (1, .int (gI a1)), (3, .int (gI a3)), (4, .int (gI a4)), (5, .long (gL x5))]) C (by decide) rfl dX3_takeBlackBack_24 ?_
        refine q_aload_n C 1 rfl rfl dX3_takeBlackBack_26 ?_
        refine q_get (v := gR (M7 a0 2 (-1))) C fX3_29 hk0 rfl dX3_takeBlackBack_27 (fun g10 => ?_)
        obtain ⟨r11, h⟩ := h
        refine q_nn r11 (by decide) ?_
        refine q_iload_n C 2 rfl rfl dX3_takeBlackBack_30 ?_
        refine q_iload C 0 rfl dX3_takeBlackBack_31 ?_
        refine q_iload_n C 3 rfl rfl dX3_takeBlackBack_33 ?_
        refine q_iconst C dX3_takeBlackBack_34 ?_
        refine q_callVI (As := [.int (gI a1), .int (gI c8), .int (gI a3), .int (gI 1)]) (st := []) C vX3_164 kX2_cellOf ⟨Nat.le_of_ble_eq_true rfl, Nat.le_of_ble_eq_true rfl⟩ ⟨Nat.le_of_ble_eq_true rfl, Nat.le_of_ble_eq_true rfl⟩ rfl r11 ⟨_, _, rfl⟩ (by decide) rfl (Nat.le_of_ble_eq_true rfl) (mX2_cellOf l D cy kd ln rh _ (M7 a0 2 (-1)) a1 c8 a3 1 M7 r11 h) dX3_takeBlackBack_35 (fun c13 M12 g14 h => ?_)
        have h := h g14
        refine q_istore (lv' := [(8, .int (gI c13)), (7, .int (gI c8)), (0, .ref (gad a0)), (1, .int (gI a1)), (3, .int (gI a3)), (4, .int (gI a4)), (5, .long (gL x5))]) C (by decide) rfl dX3_takeBlackBack_38 ?_
        refine q_iload C 0 rfl dX3_takeBlackBack_40 ?_
        refine q_iconst C dX3_takeBlackBack_42 ?_
        refine q_icmp_eq (tgt := 76) C g14 (show rng (-1) by decide) (by decide) dX3_takeBlackBack_43 (fun b15 => ?_) (fun b15 => ?_)
        · have h := h.1 b15
          refine q_lv (lv' := [(0, .ref (gad a0)), (1, .int (gI a1)), (3, .int (gI a3)), (4, .int (gI a4)), (5, .long (gL x5))]) [2, 3, 4, 5, 6] rfl ?_
          exact t76 (wX3_takeBlackBack_12 kd ln post a0 a1 a2 a3 a4 n) hk12_ x5 M12 h
        · have h := h.2 b15
          refine q_aload_n C 2 rfl rfl dX3_takeBlackBack_46 ?_
          obtain ⟨r17, h⟩ := h
          obtain ⟨r18, h⟩ := h
          obtain ⟨r19, h⟩ := h
          refine q_get (v := .ref (rh (M12 a0 3 (-1)) 1)) C fX3_34 hk0 (if_neg r17) dX3_takeBlackBack_47 (fun g16 => ?_)
          refine q_iload C 0 rfl dX3_takeBlackBack_50 ?_
          obtain ⟨r20, h⟩ := h
          refine q_bald C r18 rfl (fun _ q => q) r20 dX3_takeBlackBack_52 (fun g21 => ?_)
          have h := h g21
          refine q_iconst C dX3_takeBlackBack_53 ?_
          refine q_icmp_ne (tgt := 76) C g21 (show rng (-1) by decide) (by decide) dX3_takeBlackBack_54 (fun b22 => ?_) (fun b22 => ?_)
          · have h := h.1 b22
            refine q_lv (lv' := [(0, .ref (gad a0)), (1, .int (gI a1)), (3, .int (gI a3)), (4, .int (gI a4)), (5, .long (gL x5))]) [2, 3, 4, 5, 6] rfl ?_
            exact t76 (wX3_takeBlackBack_12 kd ln post a0 a1 a2 a3 a4 n) hk12_ x5 M12 h
          · have h := h.2 b22
            refine q_aload_n C 2 rfl rfl dX3_takeBlackBack_57 ?_
            refine q_iload_n C 3 rfl rfl dX3_takeBlackBack_58 ?_
            refine q_iload C 1 rfl dX3_takeBlackBack_59 ?_
            refine q_iload_n C 4 rfl rfl dX3_takeBlackBack_61 ?_
            refine q_callVI (As := [.int (gI a1), .int (gI c8), .int (gI a3)]) (st := []) C vX3_176 kX3_isLost ⟨Nat.le_of_ble_eq_true rfl, Nat.le_of_ble_eq_true rfl⟩ ⟨Nat.le_of_ble_eq_true rfl, Nat.le_of_ble_eq_true rfl⟩ rfl hk0 ⟨_, _, rfl⟩ (by decide) rfl (Nat.le_of_ble_eq_true rfl) (mX3_isLost l D cy kd ln rh _ a0 a1 c8 a3 M12 hk0 h) dX3_takeBlackBack_62 (fun c24 M23 g25 h => ?_)
            have h := h g25
            refine q_if_eq (tgt := 76) C g25 (by decide) dX3_takeBlackBack_65 (fun b26 => ?_) (fun b26 => ?_)
            · have h := h.1 b26
              refine q_lv (lv' := [(0, .ref (gad a0)), (1, .int (gI a1)), (3, .int (gI a3)), (4, .int (gI a4)), (5, .long (gL x5))]) [2, 3, 4, 5, 6] rfl ?_
              exact t76 (wX3_takeBlackBack_12 kd ln post a0 a1 a2 a3 a4 n) hk12_ x5 M23 h
            · have h := h.2 b26
              refine q_aload_n C 2 rfl rfl dX3_takeBlackBack_68 ?_
              refine q_iload C 0 rfl dX3_takeBlackBack_69 ?_
              refine q_iload C 5 rfl dX3_takeBlackBack_71 ?_
              refine q_callVV (As := [.int (gI c13), .int (gI a4)]) (st := []) C vX3_90 kX3_settle ⟨Nat.le_of_ble_eq_true rfl, Nat.le_of_ble_eq_true rfl⟩ ⟨Nat.le_of_ble_eq_true rfl, Nat.le_of_ble_eq_true rfl⟩ rfl hk0 ⟨_, _, rfl⟩ (by decide) rfl (Nat.le_of_ble_eq_true rfl) (mX3_settle l D cy kd ln rh _ a0 c13 a4 M23 hk0 h) dX3_takeBlackBack_73 (fun M27 h => ?_)
              refine q_lv (lv' := [(0, .ref (gad a0)), (1, .int (gI a1)), (3, .int (gI a3)), (4, .int (gI a4)), (5, .long (gL x5))]) [2, 3, 4, 5, 6] rfl ?_
              exact t76 (wX3_takeBlackBack_12 kd ln post a0 a1 a2 a3 a4 n) hk12_ x5 M27 h
  unfold wX3_takeBlackBack at h
  refine q_aload_n C 0 rfl rfl dX3_takeBlackBack_0 ?_
  refine q_get (v := gR (M a0 0 (-1))) C fX3_15 hk0 rfl dX3_takeBlackBack_1 (fun g1 => ?_)
  obtain ⟨r2, h⟩ := h
  refine q_nn r2 (by decide) ?_
  refine q_iload_n C 1 rfl rfl dX3_takeBlackBack_4 ?_
  refine q_iload_n C 2 rfl rfl dX3_takeBlackBack_5 ?_
  refine q_iload_n C 3 rfl rfl dX3_takeBlackBack_6 ?_
  refine q_callVL (As := [.int (gI a1), .int (gI a2), .int (gI a3)]) (st := []) C vX3_173 kX0_blackSources ⟨Nat.le_of_ble_eq_true rfl, Nat.le_of_ble_eq_true rfl⟩ ⟨Nat.le_of_ble_eq_true rfl, Nat.le_of_ble_eq_true rfl⟩ rfl r2 ⟨_, _, rfl⟩ (by decide) rfl (Nat.le_of_ble_eq_true rfl) (mX0_blackSources l D cy kd ln rh _ (M a0 0 (-1)) a1 a2 a3 M r2 h) dX3_takeBlackBack_7 (fun c4 M3 h => ?_)
  refine q_lstore (lv' := [(5, .long (gL c4)), (0, .ref (gad a0)), (1, .int (gI a1)), (2, .int (gI a2)), (3, .int (gI a3)), (4, .int (gI a4))]) C (by decide) rfl dX3_takeBlackBack_10 ?_
  refine q_lv (lv' := [(0, .ref (gad a0)), (1, .int (gI a1)), (3, .int (gI a3)), (4, .int (gI a4)), (5, .long (gL c4))]) [1, 2, 4, 5, 0] rfl ?_
  obtain ⟨j12, h⟩ := h
  exact t12  j12 c4 M3 h
set_option maxHeartbeats 4000000 in
set_option maxRecDepth 100000 in
theorem mX3_goBackFrom (l : Launch) (D : va_G) (cy : Nat → ClassId) (kd : gKd) (ln : gLn) (rh : gRh) (post : gM → Prop) (a0 : Int) (a1 : Int) (a2 : Int) (M : gM) (hk0 : kd a0 = 3) (h : wX3_goBackFrom kd ln post a0 a1 a2 M) : gMV l D cy yX3_goBackFrom cX3_goBackFrom 6 4 105 [.ref (gad a0), .int (gI a1), .int (gI a2)] kd ln rh M post := by
  refine gMV_of (own := RX3) (by decide) rfl (Nat.le_of_ble_eq_true rfl) ?_
  intro p e s m args below meth c A H0 Q C hret
  unfold wX3_goBackFrom at h
  refine q_aload_n C 0 rfl rfl dX3_goBackFrom_0 ?_
  refine q_get (v := gR (M a0 2 (-1))) C fX3_29 hk0 rfl dX3_goBackFrom_1 (fun g1 => ?_)
  obtain ⟨r2, h⟩ := h
  refine q_nn r2 (by decide) ?_
  obtain ⟨r3, h⟩ := h
  refine q_get (v := .ref (rh (M a0 2 (-1)) 1)) C fX3_93 r2 (if_neg (Int.not_lt.mpr r3)) dX3_goBackFrom_4 (fun g4 => ?_)
  refine q_iload_n C 1 rfl rfl dX3_goBackFrom_7 ?_
  refine q_callSI (As := [.int (gI a1)]) (st := [.ref (rh (M a0 2 (-1)) 1)]) C vX3_96 kX5_pairOf ⟨Nat.le_of_ble_eq_true rfl, Nat.le_of_ble_eq_true rfl⟩ ⟨Nat.le_of_ble_eq_true rfl, Nat.le_of_ble_eq_true rfl⟩ rfl rfl (Nat.le_of_ble_eq_true rfl) (mX5_pairOf l D cy kd ln rh _ a1 M  h) dX3_goBackFrom_8 (fun c6 M5 g7 h => ?_)
  have h := h g7
  obtain ⟨r8, h⟩ := h
  refine q_iald C r2 rfl (fun _ q => q) r8 dX3_goBackFrom_11 (fun g9 => ?_)
  have h := h g9
  refine q_topi (fun v10 ev10 => ?_)
  have h := h v10 ev10
  have gv10 : rng v10 := by rw [ev10]; exact g9
  refine q_istore_n (lv' := [(3, .int (gI v10)), (0, .ref (gad a0)), (1, .int (gI a1)), (2, .int (gI a2))]) C rfl (by decide) rfl dX3_goBackFrom_12 ?_
  refine q_aload_n C 1 rfl rfl dX3_goBackFrom_13 ?_
  refine q_get (v := gR (M5 a0 2 (-1))) C fX3_29 hk0 rfl dX3_goBackFrom_14 (fun g11 => ?_)
  obtain ⟨r12, h⟩ := h
  refine q_nn r12 (by decide) ?_
  obtain ⟨r13, h⟩ := h
  refine q_get (v := .ref (rh (M5 a0 2 (-1)) 2)) C fX3_100 r12 (if_neg (Int.not_lt.mpr r13)) dX3_goBackFrom_17 (fun g14 => ?_)
  refine q_iload_n C 2 rfl rfl dX3_goBackFrom_20 ?_
  refine q_callSI (As := [.int (gI a1)]) (st := [.ref (rh (M5 a0 2 (-1)) 2)]) C vX3_96 kX5_pairOf ⟨Nat.le_of_ble_eq_true rfl, Nat.le_of_ble_eq_true rfl⟩ ⟨Nat.le_of_ble_eq_true rfl, Nat.le_of_ble_eq_true rfl⟩ rfl rfl (Nat.le_of_ble_eq_true rfl) (mX5_pairOf l D cy kd ln rh _ a1 M5  h) dX3_goBackFrom_21 (fun c16 M15 g17 h => ?_)
  have h := h g17
  obtain ⟨r18, h⟩ := h
  refine q_iald C r12 rfl (fun _ q => q) r18 dX3_goBackFrom_24 (fun g19 => ?_)
  have h := h g19
  refine q_topi (fun v20 ev20 => ?_)
  have h := h v20 ev20
  have gv20 : rng v20 := by rw [ev20]; exact g19
  refine q_istore (lv' := [(4, .int (gI v20)), (3, .int (gI v10)), (0, .ref (gad a0)), (1, .int (gI a1)), (2, .int (gI a2))]) C (by decide) rfl dX3_goBackFrom_25 ?_
  refine q_iload_n C 3 rfl rfl dX3_goBackFrom_27 ?_
  refine q_callSI (As := [.int (gI a1)]) (st := []) C vX3_103 kX5_manOf ⟨Nat.le_of_ble_eq_true rfl, Nat.le_of_ble_eq_true rfl⟩ ⟨Nat.le_of_ble_eq_true rfl, Nat.le_of_ble_eq_true rfl⟩ rfl rfl (Nat.le_of_ble_eq_true rfl) (mX5_manOf l D cy kd ln rh _ a1 M15  h) dX3_goBackFrom_28 (fun c22 M21 g23 h => ?_)
  have h := h g23
  refine q_istore (lv' := [(5, .int (gI c22)), (4, .int (gI v20)), (3, .int (gI v10)), (0, .ref (gad a0)), (1, .int (gI a1)), (2, .int (gI a2))]) C (by decide) rfl dX3_goBackFrom_31 ?_
  refine q_iload_n C 4 rfl rfl dX3_goBackFrom_33 ?_
  refine q_callSI (As := [.int (gI a1)]) (st := []) C vX3_143 kX5_turnOf ⟨Nat.le_of_ble_eq_true rfl, Nat.le_of_ble_eq_true rfl⟩ ⟨Nat.le_of_ble_eq_true rfl, Nat.le_of_ble_eq_true rfl⟩ rfl rfl (Nat.le_of_ble_eq_true rfl) (mX5_turnOf l D cy kd ln rh _ a1 M21  h) dX3_goBackFrom_34 (fun c25 M24 g26 h => ?_)
  have h := h g26
  refine q_iconst C dX3_goBackFrom_37 ?_
  refine q_icmp_ne (tgt := 64) C g26 (show rng 1 by decide) (by decide) dX3_goBackFrom_38 (fun b27 => ?_) (fun b27 => ?_)
  · have h := h.1 b27
    refine q_aload_n C 3 rfl rfl dX3_goBackFrom_64 ?_
    refine q_iload_n C 2 rfl rfl dX3_goBackFrom_65 ?_
    refine q_iload C 1 rfl dX3_goBackFrom_66 ?_
    refine q_iload C 0 rfl dX3_goBackFrom_68 ?_
    refine q_iload_n C 5 rfl rfl dX3_goBackFrom_70 ?_
    refine q_callVV (As := [.int (gI v10), .int (gI v20), .int (gI c22), .int (gI a2)]) (st := []) C vX3_153 kX3_takeBlackBack ⟨Nat.le_of_ble_eq_true rfl, Nat.le_of_ble_eq_true rfl⟩ ⟨Nat.le_of_ble_eq_true rfl, Nat.le_of_ble_eq_true rfl⟩ rfl hk0 ⟨_, _, rfl⟩ (by decide) rfl (Nat.le_of_ble_eq_true rfl) (mX3_takeBlackBack l D cy kd ln rh _ a0 v10 v20 c22 a2 M24 hk0 h) dX3_goBackFrom_71 (fun M28 h => ?_)
    exact hret M28 _ _ dX3_goBackFrom_74 h
  · have h := h.2 b27
    refine q_aload_n C 3 rfl rfl dX3_goBackFrom_41 ?_
    refine q_iload_n C 2 rfl rfl dX3_goBackFrom_42 ?_
    refine q_iload C 1 rfl dX3_goBackFrom_43 ?_
    refine q_iload C 0 rfl dX3_goBackFrom_45 ?_
    refine q_iload_n C 5 rfl rfl dX3_goBackFrom_47 ?_
    refine q_callVV (As := [.int (gI v10), .int (gI v20), .int (gI c22), .int (gI a2)]) (st := []) C vX3_146 kX3_takeKingBack ⟨Nat.le_of_ble_eq_true rfl, Nat.le_of_ble_eq_true rfl⟩ ⟨Nat.le_of_ble_eq_true rfl, Nat.le_of_ble_eq_true rfl⟩ rfl hk0 ⟨_, _, rfl⟩ (by decide) rfl (Nat.le_of_ble_eq_true rfl) (mX3_takeKingBack l D cy kd ln rh _ a0 v10 v20 c22 a2 M24 hk0 h) dX3_goBackFrom_48 (fun M31 h => ?_)
    refine q_aload_n C 3 rfl rfl dX3_goBackFrom_51 ?_
    refine q_iload_n C 2 rfl rfl dX3_goBackFrom_52 ?_
    refine q_iload C 1 rfl dX3_goBackFrom_53 ?_
    refine q_iload C 0 rfl dX3_goBackFrom_55 ?_
    refine q_iload_n C 5 rfl rfl dX3_goBackFrom_57 ?_
    refine q_callVV (As := [.int (gI v10), .int (gI v20), .int (gI c22), .int (gI a2)]) (st := []) C vX3_150 kX3_takeManBack ⟨Nat.le_of_ble_eq_true rfl, Nat.le_of_ble_eq_true rfl⟩ ⟨Nat.le_of_ble_eq_true rfl, Nat.le_of_ble_eq_true rfl⟩ rfl hk0 ⟨_, _, rfl⟩ (by decide) rfl (Nat.le_of_ble_eq_true rfl) (mX3_takeManBack l D cy kd ln rh _ a0 v10 v20 c22 a2 M31 hk0 h) dX3_goBackFrom_58 (fun M34 h => ?_)
    refine q_goto (tgt := 74) C (by decide) dX3_goBackFrom_61 ?_
    exact hret M34 _ _ dX3_goBackFrom_74 h
set_option maxHeartbeats 4000000 in
set_option maxRecDepth 100000 in
theorem mX3_work (l : Launch) (D : va_G) (cy : Nat → ClassId) (kd : gKd) (ln : gLn) (rh : gRh) (post : gM → Prop) (a0 : Int) (a1 : Int) (a2 : Int) (M : gM) (hk0 : kd a0 = 3) (h : wX3_work kd ln post a0 a1 a2 M) : gMV l D cy yX3_work cX3_work 6 5 130 [.ref (gad a0), gR a1, gR a2] kd ln rh M post := by
  refine gMV_of (own := RX3) (by decide) rfl (by by_cases za1 : a1 = 0 <;> by_cases za2 : a2 = 0 <;> simp [lg_sl, gR, Value.category, za1, za2]) ?_
  intro p e s m args below meth c A H0 Q C hret
  refine q_lvE (lv' := [(0, .ref (gad a0)), (1, gR a1), (2, gR a2)]) (by by_cases za1 : a1 = 0 <;> by_cases za2 : a2 = 0 <;> simp [lv_args, gR, Value.category, za1, za2]) ?_
  have t50 : ∀ (k31 : Int → Int → gM → Prop), (∀ (x3 : Int), ∀ (x4 : Int), ∀ (M : gM), k31 x3 x4 M → gW p l e (gRm 5 130) s m args below meth c D cy A H0 Q 6 kd ln rh 0 0 M 31 [(0, .ref (gad a0)), (3, .int (gI x3)), (4, .int (gI x4))] []) → ∀ (n : Nat) (x3 : Int) (x4 : Int) (x5 : Int) (M : gM), wX3_work_50 kd ln post a0 a1 a2 k31 n x3 x4 x5 M → gW p l e (gRm 5 130) s m args below meth c D cy A H0 Q 6 kd ln rh 0 0 M 50 [(0, .ref (gad a0)), (3, .int (gI x3)), (4, .int (gI x4)), (5, .int (gI x5))] [] := by
    intro k31 hk31_
    intro n
    induction n with
    | zero => intro x3 x4 x5 M h; exact absurd h (by simp [wX3_work_50])
    | succ n ih =>
      intro x3 x4 x5 M h
      have hk50_ := ih
      rw [wX3_work_50] at h
      refine q_iload_n C 1 rfl rfl dX3_work_50 ?_
      refine q_iload C 3 rfl dX3_work_51 ?_
      obtain ⟨r20, h⟩ := h
      obtain ⟨r21, h⟩ := h
      refine q_icmp_ge (tgt := 76) C r20 r21 (by decide) dX3_work_53 (fun b22 => ?_) (fun b22 => ?_)
      · have h := h.1 b22
        refine q_iinc (lv' := [(4, .int (gI (x4 + 1))), (0, .ref (gad a0)), (3, .int (gI x3)), (5, .int (gI x5))]) C 2 rfl (by decide) rfl dX3_work_76 ?_
        refine q_goto (tgt := 31) C (by decide) dX3_work_79 ?_
        refine q_lv (lv' := [(0, .ref (gad a0)), (3, .int (gI x3)), (4, .int (gI (x4 + 1)))]) [1, 2, 0] rfl ?_
        exact hk31_ x3 (x4 + 1) M h
      · have h := h.2 b22
        refine q_aload_n C 0 rfl rfl dX3_work_56 ?_
        refine q_aload_n C 0 rfl rfl dX3_work_57 ?_
        obtain ⟨r23, h⟩ := h
        refine q_get (v := .ref (rh a0 5)) C fX3_44 hk0 (if_neg (Int.not_lt.mpr r23)) dX3_work_58 (fun g24 => ?_)
        refine q_iload_n C 1 rfl rfl dX3_work_61 ?_
        obtain ⟨r25, h⟩ := h
        refine q_iald C hk0 rfl (fun _ q => q) r25 dX3_work_62 (fun g26 => ?_)
        have h := h g26
        refine q_iload C 2 rfl dX3_work_63 ?_
        refine q_iconst C dX3_work_65 ?_
        refine q_iadd C dX3_work_66 ?_
        refine q_callVV (As := [.int (gI (M a0 5 x3)), .int (gI (x4 + 1))]) (st := []) C vX3_82 kX3_goBackFrom ⟨Nat.le_of_ble_eq_true rfl, Nat.le_of_ble_eq_true rfl⟩ ⟨Nat.le_of_ble_eq_true rfl, Nat.le_of_ble_eq_true rfl⟩ rfl hk0 ⟨_, _, rfl⟩ (by decide) rfl (Nat.le_of_ble_eq_true rfl) (mX3_goBackFrom l D cy kd ln rh _ a0 (M a0 5 x3) (x4 + 1) M hk0 h) dX3_work_67 (fun M27 h => ?_)
        refine q_iinc (lv' := [(3, .int (gI (x3 + 1))), (0, .ref (gad a0)), (4, .int (gI x4)), (5, .int (gI x5))]) C 1 rfl (by decide) rfl dX3_work_70 ?_
        refine q_goto (tgt := 50) C (by decide) dX3_work_73 ?_
        refine q_lv (lv' := [(0, .ref (gad a0)), (3, .int (gI (x3 + 1))), (4, .int (gI x4)), (5, .int (gI x5))]) [1, 0, 2, 3] rfl ?_
        exact hk50_ (x3 + 1) x4 x5 M27 h
  have t31 : ∀ (n : Nat) (x3 : Int) (x4 : Int) (M : gM), wX3_work_31 kd ln post a0 a1 a2 n x3 x4 M → gW p l e (gRm 5 130) s m args below meth c D cy A H0 Q 6 kd ln rh 0 0 M 31 [(0, .ref (gad a0)), (3, .int (gI x3)), (4, .int (gI x4))] [] := by
    intro n
    induction n with
    | zero => intro x3 x4 M h; exact absurd h (by simp [wX3_work_31])
    | succ n ih =>
      intro x3 x4 M h
      have hk31_ := ih
      rw [wX3_work_31] at h
      refine q_iload C 2 rfl dX3_work_31 ?_
      refine q_bipush C (by decide) dX3_work_33 ?_
      obtain ⟨r13, h⟩ := h
      refine q_icmp_ge (tgt := 82) C r13 (show rng 126 by decide) (by decide) dX3_work_35 (fun b14 => ?_) (fun b14 => ?_)
      · have h := h.1 b14
        exact hret M _ _ dX3_work_82 h
      · have h := h.2 b14
        refine q_aload_n C 0 rfl rfl dX3_work_38 ?_
        refine q_iload C 2 rfl dX3_work_39 ?_
        refine q_callVV (As := [.int (gI x4)]) (st := []) C vX3_75 kX3_settlePromotions ⟨Nat.le_of_ble_eq_true rfl, Nat.le_of_ble_eq_true rfl⟩ ⟨Nat.le_of_ble_eq_true rfl, Nat.le_of_ble_eq_true rfl⟩ rfl hk0 ⟨_, _, rfl⟩ (by decide) rfl (Nat.le_of_ble_eq_true rfl) (mX3_settlePromotions l D cy kd ln rh _ a0 x4 M hk0 h) dX3_work_41 (fun M15 h => ?_)
        refine q_aload_n C 0 rfl rfl dX3_work_44 ?_
        refine q_get (v := .int (gI (M15 a0 6 (-1)))) C fX3_79 hk0 rfl dX3_work_45 (fun g18 => ?_)
        have h := h g18
        refine q_topi (fun v19 ev19 => ?_)
        have h := h v19 ev19
        have gv19 : rng v19 := by rw [ev19]; exact g18
        refine q_istore (lv' := [(5, .int (gI v19)), (0, .ref (gad a0)), (3, .int (gI x3)), (4, .int (gI x4))]) C (by decide) rfl dX3_work_48 ?_
        refine q_lv (lv' := [(0, .ref (gad a0)), (3, .int (gI x3)), (4, .int (gI x4)), (5, .int (gI v19))]) [1, 2, 3, 0] rfl ?_
        obtain ⟨j50, h⟩ := h
        exact t50 (wX3_work_31 kd ln post a0 a1 a2 n) hk31_ j50 x3 x4 v19 M15 h
  have t26 : ∀ (M : gM), wX3_work_26 kd ln post a0 a1 a2  M → gW p l e (gRm 5 130) s m args below meth c D cy A H0 Q 6 kd ln rh 0 0 M 26 [(0, .ref (gad a0))] [] := by
    intro   M h
    unfold wX3_work_26 at h
    refine q_iconst C dX3_work_26 ?_
    refine q_istore_n (lv' := [(3, .int (gI 0)), (0, .ref (gad a0))]) C rfl (by decide) rfl dX3_work_27 ?_
    refine q_iconst C dX3_work_28 ?_
    refine q_istore (lv' := [(4, .int (gI 0)), (3, .int (gI 0)), (0, .ref (gad a0))]) C (by decide) rfl dX3_work_29 ?_
    refine q_lv (lv' := [(0, .ref (gad a0)), (3, .int (gI 0)), (4, .int (gI 0))]) [2, 1, 0] rfl ?_
    obtain ⟨j31, h⟩ := h
    exact t31  j31 0 0 M h
  unfold wX3_work at h
  refine q_aload_n C 0 rfl rfl dX3_work_0 ?_
  refine q_callVV (As := []) (st := []) C vX3_68 kX3_findMates ⟨Nat.le_of_ble_eq_true rfl, Nat.le_of_ble_eq_true rfl⟩ ⟨Nat.le_of_ble_eq_true rfl, Nat.le_of_ble_eq_true rfl⟩ rfl hk0 ⟨_, _, rfl⟩ (by decide) rfl (Nat.le_of_ble_eq_true rfl) (mX3_findMates l D cy kd ln rh _ a0 M hk0 h) dX3_work_1 (fun M1 h => ?_)
  refine q_aload_n C 0 rfl rfl dX3_work_4 ?_
  refine q_get (v := .int (gI (M1 a0 4 (-1)))) C fX3_39 hk0 rfl dX3_work_5 (fun g4 => ?_)
  have h := h g4
  refine q_iconst C dX3_work_8 ?_
  refine q_icmp_ne (tgt := 26) C g4 (show rng 2 by decide) (by decide) dX3_work_9 (fun b5 => ?_) (fun b5 => ?_)
  · have h := h.1 b5
    refine q_lv (lv' := [(0, .ref (gad a0))]) [0] rfl ?_
    exact t26  M1 h
  · have h := h.2 b5
    refine q_aloadR_n C 1 rfl rfl dX3_work_12 ?_
    refine q_ifnull (tgt := 26) C (by decide) dX3_work_13 (fun b6 => ?_) (fun b6 => ?_)
    · have h := h.1 b6
      refine q_lv (lv' := [(0, .ref (gad a0))]) [0] rfl ?_
      exact t26  M1 h
    · have h := h.2 b6
      refine q_aloadR_n C 2 rfl rfl dX3_work_16 ?_
      refine q_ifnull (tgt := 26) C (by decide) dX3_work_17 (fun b7 => ?_) (fun b7 => ?_)
      · have h := h.1 b7
        refine q_lv (lv' := [(0, .ref (gad a0))]) [0] rfl ?_
        exact t26  M1 h
      · have h := h.2 b7
        refine q_aload_n C 0 rfl rfl dX3_work_20 ?_
        refine q_aloadR_n C 1 rfl rfl dX3_work_21 ?_
        obtain ⟨r8, h⟩ := h
        refine q_nn r8 (by decide) ?_
        refine q_aloadR_n C 2 rfl rfl dX3_work_22 ?_
        obtain ⟨r9, h⟩ := h
        refine q_nn r9 (by decide) ?_
        refine q_callVV (As := [.ref (gad a1), .ref (gad a2)]) (st := []) C vX3_71 kX3_findPromotions ⟨Nat.le_of_ble_eq_true rfl, Nat.le_of_ble_eq_true rfl⟩ ⟨Nat.le_of_ble_eq_true rfl, Nat.le_of_ble_eq_true rfl⟩ rfl hk0 ⟨_, _, rfl⟩ (by decide) rfl (Nat.le_of_ble_eq_true rfl) (mX3_findPromotions l D cy kd ln rh _ a0 a1 a2 M1 hk0 r8 r9 h) dX3_work_23 (fun M10 h => ?_)
        refine q_lv (lv' := [(0, .ref (gad a0))]) [0] rfl ?_
        exact t26  M10 h
