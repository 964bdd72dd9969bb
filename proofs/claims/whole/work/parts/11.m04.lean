set_option maxHeartbeats 4000000 in
set_option maxRecDepth 100000 in
theorem mX3_work (l : Launch) (D : va_G) (cy : Nat → ClassId) (kd : gKd) (ln : gLn) (rh : gRh) (post : gM → Prop) (a0 : Int) (a1 : Int) (a2 : Int) (M : gM) (hk0 : kd a0 = 3) (h : wX3_work kd ln post a0 a1 a2 M) : gMV l D cy yX3_work cX3_work 6 5 130 [.ref (gad a0), gR a1, gR a2] kd ln rh M post := by
  refine gMV_of (own := RX3) (by decide) rfl (by by_cases za1 : a1 = 0 <;> by_cases za2 : a2 = 0 <;> simp [lg_sl, gR, Value.category, za1, za2]) ?_
  intro p e s m args below meth c A H0 Q C hret
  refine q_lvE (lv' := [(0, .ref (gad a0)), (1, gR a1), (2, gR a2)]) (by by_cases za1 : a1 = 0 <;> by_cases za2 : a2 = 0 <;> simp [lv_args, gR, Value.category, za1, za2]) ?_
  have t50 : ∀ (k31 : Int → Int → gM → Prop), (∀ (x3 : Int), ∀ (x4 : Int), ∀ (M : gM), k31 x3 x4 M → gW p l e (gRm 5 130) s m args below meth c D cy A H0 Q 6 kd ln rh 0 0 M 31 [(0, .ref (gad a0)), (3, .int (gI x3)), (4, .int (gI x4))] []) → ∀ (n : Nat) (x3 : Int) (x4 : Int) (x5 : Int) (M : gM), wX3_work_50 kd ln post a0 a1 a2 k31 n x3 x4 x5 M → gW p l e (gRm 5 130) s m args below meth c D cy A H0 Q 6 kd ln rh 0 0 M 50 [(0, .ref (gad a0)), (3, .int (gI x3)), (4, .int (gI x4)), (5, .int (gI x5))] [] := by
    intro k31 hk31_
    intro n
    induction n with
    | zero => intro x3 x4 x5 M h; exact absurd h (by simp [wX3_work_50])
    | succ n ih =>
      intro x3 x4 x5 M h
      have hk50_ := ih
      rw [wX3_work_50] at h
      refine q_iload_n C 1 rfl rfl dX3_work_50 ?_
      refine q_iload C 3 rfl dX3_work_51 ?_
      obtain ⟨r20, h⟩ := h
      obtain ⟨r21, h⟩ := h
      refine q_icmp_ge (tgt := 76) C r20 r21 (by decide) dX3_work_53 (fun b22 => ?_) (fun b22 => ?_)
      · have h := h.1 b22
        refine q_iinc (lv' := [(4, .int (gI (x4 + 1))), (0, .ref (gad a0)), (3, .int (gI x3)), (5, .int (gI x5))]) C 2 rfl (by decide) rfl dX3_work_76 ?_
        refine q_goto (tgt := 31) C (by decide) dX3_work_79 ?_
        refine q_lv (lv' := [(0, .ref (gad a0)), (3, .int (gI x3)), (4, .int (gI (x4 + 1)))]) [1, 2, 0] rfl ?_
        exact hk31_ x3 (x4 + 1) M h
      · have h := h.2 b22
        refine q_aload_n C 0 rfl rfl dX3_work_56 ?_
        refine q_aload_n C 0 rfl rfl dX3_work_57 ?_
        obtain ⟨r23, h⟩ := h
        refine q_get (v := .ref (rh a0 5)) C fX3_44 hk0 (if_neg (Int.not_lt.mpr r23)) dX3_work_58 (fun g24 => ?_)
        refine q_iload_n C 1 rfl rfl dX3_work_61 ?_
        obtain ⟨r25, h⟩ := h
        refine q_iald C hk0 rfl (fun _ q => q) r25 dX3_work_62 (fun g26 => ?_)
        have h := h g26
        refine q_iload C 2 rfl dX3_work_63 ?_
        refine q_iconst C dX3_work_65 ?_
        refine q_iadd C dX3_work_66 ?_
        refine q_callVV (As := [.int (gI (M a0 5 x3)), .int (gI (x4 + 1))]) (st := []) C vX3_82 kX3_goBackFrom ⟨Nat.le_of_ble_eq_true rfl, Nat.le_of_ble_eq_true rfl⟩ ⟨Nat.le_of_ble_eq_true rfl, Nat.le_of_ble_eq_true rfl⟩ rfl hk0 ⟨_, _, rfl⟩ (by decide) rfl (Nat.le_of_ble_eq_true rfl) (mX3_goBackFrom l D cy kd ln rh _ a0 (M a0 5 x3) (x4 + 1) M hk0 h) dX3_work_67 (fun M27 h => ?_)
        refine q_iinc (lv' := [(3, .int (gI (x3 + 1))), (0, .ref (gad a0)), (4, .int (gI x4)), (5, .int (gI x5))]) C 1 rfl (by decide) rfl dX3_work_70 ?_
        refine q_goto (tgt := 50) C (by decide) dX3_work_73 ?_
        refine q_lv (lv' := [(0, .ref (gad a0)), (3, .int (gI (x3 + 1))), (4, .int (gI x4)), (5, .int (gI x5))]) [1, 0, 2, 3] rfl ?_
        exact hk50_ (x3 + 1) x4 x5 M27 h
  have t31 : ∀ (n : Nat) (x3 : Int) (x4 : Int) (M : gM), wX3_work_31 kd ln post a0 a1 a2 n x3 x4 M → gW p l e (gRm 5 130) s m args below meth c D cy A H0 Q 6 kd ln rh 0 0 M 31 [(0, .ref (gad a0)), (3, .int (gI x3)), (4, .int (gI x4))] [] := by
    intro n
    induction n with
    | zero => intro x3 x4 M h; exact absurd h (by simp [wX3_work_31])
    | succ n ih =>
      intro x3 x4 M h
      have hk31_ := ih
      rw [wX3_work_31] at h
      refine q_iload C 2 rfl dX3_work_31 ?_
      refine q_bipush C (by decide) dX3_work_33 ?_
      obtain ⟨r13, h⟩ := h
      refine q_icmp_ge (tgt := 82) C r13 (show rng 126 by decide) (by decide) dX3_work_35 (fun b14 => ?_) (fun b14 => ?_)
      · have h := h.1 b14
        exact hret M _ _ dX3_work_82 h
      · have h := h.2 b14
        refine q_aload_n C 0 rfl rfl dX3_work_38 ?_
        refine q_iload C 2 rfl dX3_work_39 ?_
        refine q_callVV (As := [.int (gI x4)]) (st := []) C vX3_75 kX3_settlePromotions ⟨Nat.le_of_ble_eq_true rfl, Nat.le_of_ble_eq_true rfl⟩ ⟨Nat.le_of_ble_eq_true rfl, Nat.le_of_ble_eq_true rfl⟩ rfl hk0 ⟨_, _, rfl⟩ (by decide) rfl (Nat.le_of_ble_eq_true rfl) (mX3_settlePromotions l D cy kd ln rh _ a0 x4 M hk0 h) dX3_work_41 (fun M15 h => ?_)
        refine q_aload_n C 0 rfl rfl dX3_work_44 ?_
        refine q_get (v := .int (gI (M15 a0 6 (-1)))) C fX3_79 hk0 rfl dX3_work_45 (fun g18 => ?_)
        have h := h g18
        refine q_topi (fun v19 ev19 => ?_)
        have h := h v19 ev19
        have gv19 : rng v19 := by rw [ev19]; exact g18
        refine q_istore (lv' := [(5, .int (gI v19)), (0, .ref (gad a0)), (3, .int (gI x3)), (4, .int (gI x4))]) C (by decide) rfl dX3_work_48 ?_
        refine q_lv (lv' := [(0, .ref (gad a0)), (3, .int (gI x3)), (4, .int (gI x4)), (5, .int (gI v19))]) [1, 2, 3, 0] rfl ?_
        obtain ⟨j50, h⟩ := h
        exact t50 (wX3_work_31 kd ln post a0 a1 a2 n) hk31_ j50 x3 x4 v19 M15 h
  have t26 : ∀ (M : gM), wX3_work_26 kd ln post a0 a1 a2  M → gW p l e (gRm 5 130) s m args below meth c D cy A H0 Q 6 kd ln rh 0 0 M 26 [(0, .ref (gad a0))] [] := by
    intro   M h
    unfold wX3_work_26 at h
    refine q_iconst C dX3_work_26 ?_
    refine q_istore_n (lv' := [(3, .int (gI 0)), (0, .ref (gad a0))]) C rfl (by decide) rfl dX3_work_27 ?_
    refine q_iconst C dX3_work_28 ?_
    refine q_istore (lv' := [(4, .int (gI 0)), (3, .int (gI 0)), (0, .ref (gad a0))]) C (by decide) rfl dX3_work_29 ?_
    refine q_lv (lv' := [(0, .ref (gad a0)), (3, .int (gI 0)), (4, .int (gI 0))]) [2, 1, 0] rfl ?_
    obtain ⟨j31, h⟩ := h
    exact t31  j31 0 0 M h
  unfold wX3_work at h
  refine q_aload_n C 0 rfl rfl dX3_work_0 ?_
  refine q_callVV (As := []) (st := []) C vX3_68 kX3_findMates ⟨Nat.le_of_ble_eq_true rfl, Nat.le_of_ble_eq_true rfl⟩ ⟨Nat.le_of_ble_eq_true rfl, Nat.le_of_ble_eq_true rfl⟩ rfl hk0 ⟨_, _, rfl⟩ (by decide) rfl (Nat.le_of_ble_eq_true rfl) (mX3_findMates l D cy kd ln rh _ a0 M hk0 h) dX3_work_1 (fun M1 h => ?_)
  refine q_aload_n C 0 rfl rfl dX3_work_4 ?_
  refine q_get (v := .int (gI (M1 a0 4 (-1)))) C fX3_39 hk0 rfl dX3_work_5 (fun g4 => ?_)
  have h := h g4
  refine q_iconst C dX3_work_8 ?_
  refine q_icmp_ne (tgt := 26) C g4 (show rng 2 by decide) (by decide) dX3_work_9 (fun b5 => ?_) (fun b5 => ?_)
  · have h := h.1 b5
    refine q_lv (lv' := [(0, .ref (gad a0))]) [0] rfl ?_
    exact t26  M1 h
  · have h := h.2 b5
    refine q_aloadR_n C 1 rfl rfl dX3_work_12 ?_
    refine q_ifnull (tgt := 26) C (by decide) dX3_work_13 (fun b6 => ?_) (fun b6 => ?_)
    · have h := h.1 b6
      refine q_lv (lv' := [(0, .ref (gad a0))]) [0] rfl ?_
      exact t26  M1 h
    · have h := h.2 b6
      refine q_aloadR_n C 2 rfl rfl dX3_work_16 ?_
      refine q_ifnull (tgt := 26) C (by decide) dX3_work_17 (fun b7 => ?_) (fun b7 => ?_)
      · have h := h.1 b7
        refine q_lv (lv' := [(0, .ref (gad a0))]) [0] rfl ?_
        exact t26  M1 h
      · have h := h.2 b7
        refine q_aload_n C 0 rfl rfl dX3_work_20 ?_
        refine q_aloadR_n C 1 rfl rfl dX3_work_21 ?_
        obtain ⟨r8, h⟩ := h
        refine q_nn r8 (by decide) ?_
        refine q_aloadR_n C 2 rfl rfl dX3_work_22 ?_
        obtain ⟨r9, h⟩ := h
        refine q_nn r9 (by decide) ?_
        refine q_callVV (As := [.ref (gad a1), .ref (gad a2)]) (st := []) C vX3_71 kX3_findPromotions ⟨Nat.le_of_ble_eq_true rfl, Nat.le_of_ble_eq_true rfl⟩ ⟨Nat.le_of_ble_eq_true rfl, Nat.le_of_ble_eq_true rfl⟩ rfl hk0 ⟨_, _, rfl⟩ (by decide) rfl (Nat.le_of_ble_eq_true rfl) (mX3_findPromotions l D cy kd ln rh _ a0 a1 a2 M1 hk0 r8 r9 h) dX3_work_23 (fun M10 h => ?_)
        refine q_lv (lv' := [(0, .ref (gad a0))]) [0] rfl ?_
        exact t26  M10 h
set_option maxHeartbeats 4000000 in
set_option maxRecDepth 100000 in
theorem mX5_sumUpCell (l : Launch) (D : va_G) (cy : Nat → ClassId) (kd : gKd) (ln : gLn) (rh : gRh) (post : gM → Prop) (a0 : Int) (a1 : Int) (a2 : Int) (M : gM) (hk0 : kd a0 = 5) (h : wX5_sumUpCell kd ln post a0 a1 a2 M) : gMV l D cy yX5_sumUpCell cX5_sumUpCell 5 1 20 [.ref (gad a0), .int (gI a1), .int (gI a2)] kd ln rh M post := by
  refine gMV_of (own := RX5) (by decide) rfl (Nat.le_of_ble_eq_true rfl) ?_
  intro p e s m args below meth c A H0 Q C hret
  have t64 : ∀ (y0 : Int) (y1 : Int) (M : gM), wX5_sumUpCell_64 kd ln post a0 a1 a2 y0 y1 M → gW p l e (gRm 1 20) s m args below meth c D cy A H0 Q 5 kd ln rh 0 0 M 64 [] [.int (gI y0), .int (gI y1), .ref (gad a0)] := by
    intro  y0 y1 M h
    unfold wX5_sumUpCell_64 at h
    refine q_iadd C dX5_sumUpCell_64 ?_
    obtain ⟨r41, h⟩ := h
    refine q_put (x := (y1 + y0)) (ty := .int) C fX5_95 hk0 (fun _ _ _ q => by cases q; rfl) (congrArg (fun z => Value.int (gI z)) gu_s) rfl rfl r41 (fun j q => absurd (show (0 : Nat) = j + 3 from q) (by omega)) dX5_sumUpCell_65 ?_
    exact hret (gu M a0 7 (-1) (y1 + y0)) _ _ dX5_sumUpCell_68 h
  have t63 : ∀ (y0 : Int) (M : gM), wX5_sumUpCell_63 kd ln post a0 a1 a2 y0 M → gW p l e (gRm 1 20) s m args below meth c D cy A H0 Q 5 kd ln rh 0 0 M 63 [] [.int (gI y0), .ref (gad a0)] := by
    intro  y0 M h
    unfold wX5_sumUpCell_63 at h
    refine q_iconst C dX5_sumUpCell_63 ?_
    exact t64  0 y0 M h
  unfold wX5_sumUpCell at h
  refine q_iload_n C 1 rfl rfl dX5_sumUpCell_0 ?_
  refine q_callSI (As := [.int (gI a1)]) (st := []) C vX5_92 kX5_turnOf ⟨Nat.le_of_ble_eq_true rfl, Nat.le_of_ble_eq_true rfl⟩ ⟨Nat.le_of_ble_eq_true rfl, Nat.le_of_ble_eq_true rfl⟩ rfl rfl (Nat.le_of_ble_eq_true rfl) (mX5_turnOf l D cy kd ln rh _ a1 M  h) dX5_sumUpCell_1 (fun c2 M1 g3 h => ?_)
  have h := h g3
  refine q_istore_n (lv' := [(3, .int (gI c2)), (0, .ref (gad a0)), (1, .int (gI a1)), (2, .int (gI a2))]) C rfl (by decide) rfl dX5_sumUpCell_4 ?_
  refine q_aload_n C 1 rfl rfl dX5_sumUpCell_5 ?_
  obtain ⟨r4, h⟩ := h
  refine q_get (v := .ref (rh a0 1)) C fX5_44 hk0 (if_neg (Int.not_lt.mpr r4)) dX5_sumUpCell_6 (fun g5 => ?_)
  refine q_iload_n C 2 rfl rfl dX5_sumUpCell_9 ?_
  obtain ⟨r6, h⟩ := h
  refine q_bald C hk0 rfl (fun _ q => q) r6 dX5_sumUpCell_10 (fun g7 => ?_)
  have h := h g7
  refine q_topi (fun v8 ev8 => ?_)
  have h := h v8 ev8
  have gv8 : rng v8 := by rw [ev8]; exact g7
  refine q_istore (lv' := [(4, .int (gI v8)), (3, .int (gI c2)), (0, .ref (gad a0)), (1, .int (gI a1)), (2, .int (gI a2))]) C (by decide) rfl dX5_sumUpCell_11 ?_
  refine q_aload_n C 2 rfl rfl dX5_sumUpCell_13 ?_
  obtain ⟨r9, h⟩ := h
  refine q_get (v := .ref (rh a0 4)) C fX5_15 hk0 (if_neg (Int.not_lt.mpr r9)) dX5_sumUpCell_14 (fun g10 => ?_)
  refine q_iload_n C 1 rfl rfl dX5_sumUpCell_17 ?_
  refine q_dup2 C rfl rfl dX5_sumUpCell_18 ?_
  obtain ⟨r11, h⟩ := h
  refine q_iald C hk0 rfl (fun _ q => q) r11 dX5_sumUpCell_19 (fun g12 => ?_)
  have h := h g12
  refine q_iconst C dX5_sumUpCell_20 ?_
  refine q_iadd C dX5_sumUpCell_21 ?_
  obtain ⟨r13, h⟩ := h
  refine q_iast C hk0 rfl r13 r11 dX5_sumUpCell_22 ?_
  refine q_iload C 0 rfl dX5_sumUpCell_23 ?_
  refine q_iconst C dX5_sumUpCell_25 ?_
  refine q_icmp_ne (tgt := 69) C gv8 (show rng (-1) by decide) (by decide) dX5_sumUpCell_26 (fun b14 => ?_) (fun b14 => ?_)
  · have h := h.1 b14
    refine q_aload_n C 2 rfl rfl dX5_sumUpCell_69 ?_
    obtain ⟨r15, h⟩ := h
    refine q_get (v := .ref (rh a0 10)) C fX5_24 hk0 (if_neg (Int.not_lt.mpr r15)) dX5_sumUpCell_70 (fun g16 => ?_)
    refine q_iconst C dX5_sumUpCell_73 ?_
    refine q_iload C 0 rfl dX5_sumUpCell_74 ?_
    refine q_imul C dX5_sumUpCell_76 ?_
    refine q_iload_n C 1 rfl rfl dX5_sumUpCell_77 ?_
    refine q_iadd C dX5_sumUpCell_78 ?_
    refine q_dup2 C rfl rfl dX5_sumUpCell_79 ?_
    obtain ⟨r17, h⟩ := h
    refine q_iald C hk0 rfl (fun _ q => q) r17 dX5_sumUpCell_80 (fun g18 => ?_)
    have h := h g18
    refine q_iconst C dX5_sumUpCell_81 ?_
    refine q_iadd C dX5_sumUpCell_82 ?_
    obtain ⟨r19, h⟩ := h
    refine q_iast C hk0 rfl r19 r17 dX5_sumUpCell_83 ?_
    refine q_iload C 0 rfl dX5_sumUpCell_84 ?_
    refine q_aload_n C 2 rfl rfl dX5_sumUpCell_86 ?_
    obtain ⟨r20, h⟩ := h
    refine q_get (v := .ref (rh a0 5)) C fX5_18 hk0 (if_neg (Int.not_lt.mpr r20)) dX5_sumUpCell_87 (fun g21 => ?_)
    refine q_iload_n C 1 rfl rfl dX5_sumUpCell_90 ?_
    obtain ⟨r22, h⟩ := h
    refine q_iald C hk0 rfl (fun _ q => q) r22 dX5_sumUpCell_91 (fun g23 => ?_)
    have h := h g23
    refine q_icmp_le (tgt := 110) C gv8 g23 (by decide) dX5_sumUpCell_92 (fun b24 => ?_) (fun b24 => ?_)
    · have h := h.1 b24
      exact hret (gu (gu M1 a0 4 c2 ((M1 a0 4 c2) + 1)) a0 10 ((2 * v8) + c2) (((gu M1 a0 4 c2 ((M1 a0 4 c2) + 1)) a0 10 ((2 * v8) + c2)) + 1)) _ _ dX5_sumUpCell_110 h
    · have h := h.2 b24
      refine q_aload_n C 2 rfl rfl dX5_sumUpCell_95 ?_
      refine q_get (v := .ref (rh a0 5)) C fX5_18 hk0 (if_neg (Int.not_lt.mpr r20)) dX5_sumUpCell_96 (fun g25 => ?_)
      refine q_iload_n C 1 rfl rfl dX5_sumUpCell_99 ?_
      refine q_iload C 0 rfl dX5_sumUpCell_100 ?_
      refine q_iast C hk0 rfl gv8 r22 dX5_sumUpCell_102 ?_
      refine q_aload_n C 2 rfl rfl dX5_sumUpCell_103 ?_
      obtain ⟨r26, h⟩ := h
      refine q_get (v := .ref (rh a0 6)) C fX5_21 hk0 (if_neg (Int.not_lt.mpr r26)) dX5_sumUpCell_104 (fun g27 => ?_)
      refine q_iload_n C 1 rfl rfl dX5_sumUpCell_107 ?_
      refine q_iload_n C 4 rfl rfl dX5_sumUpCell_108 ?_
      obtain ⟨r28, h⟩ := h
      obtain ⟨r29, h⟩ := h
      refine q_iast C hk0 rfl r29 r28 dX5_sumUpCell_109 ?_
      exact hret (gu (gu (gu (gu M1 a0 4 c2 ((M1 a0 4 c2) + 1)) a0 10 ((2 * v8) + c2) (((gu M1 a0 4 c2 ((M1 a0 4 c2) + 1)) a0 10 ((2 * v8) + c2)) + 1)) a0 5 c2 v8) a0 6 c2 a2) _ _ dX5_sumUpCell_110 h
  · have h := h.2 b14
    refine q_aload_n C 2 rfl rfl dX5_sumUpCell_29 ?_
    obtain ⟨r30, h⟩ := h
    refine q_get (v := .ref (rh a0 3)) C fX5_9 hk0 (if_neg (Int.not_lt.mpr r30)) dX5_sumUpCell_30 (fun g31 => ?_)
    refine q_iload_n C 1 rfl rfl dX5_sumUpCell_33 ?_
    refine q_dup2 C rfl rfl dX5_sumUpCell_34 ?_
    obtain ⟨r32, h⟩ := h
    refine q_iald C hk0 rfl (fun _ q => q) r32 dX5_sumUpCell_35 (fun g33 => ?_)
    have h := h g33
    refine q_iconst C dX5_sumUpCell_36 ?_
    refine q_iadd C dX5_sumUpCell_37 ?_
    obtain ⟨r34, h⟩ := h
    refine q_iast C hk0 rfl r34 r32 dX5_sumUpCell_38 ?_
    refine q_aload_n C 2 rfl rfl dX5_sumUpCell_39 ?_
    refine q_dup C rfl dX5_sumUpCell_40 ?_
    refine q_get (v := .int (gI ((gu (gu M1 a0 4 c2 ((M1 a0 4 c2) + 1)) a0 3 c2 (((gu M1 a0 4 c2 ((M1 a0 4 c2) + 1)) a0 3 c2) + 1)) a0 7 (-1)))) C fX5_95 hk0 rfl dX5_sumUpCell_41 (fun g35 => ?_)
    have h := h g35
    refine q_iload_n C 1 rfl rfl dX5_sumUpCell_44 ?_
    refine q_if_ne (tgt := 63) C g3 (by decide) dX5_sumUpCell_45 (fun b36 => ?_) (fun b36 => ?_)
    · have h := h.1 b36
      refine q_lv (lv' := []) [] rfl ?_
      exact t63  ((gu (gu M1 a0 4 c2 ((M1 a0 4 c2) + 1)) a0 3 c2 (((gu M1 a0 4 c2 ((M1 a0 4 c2) + 1)) a0 3 c2) + 1)) a0 7 (-1)) (gu (gu M1 a0 4 c2 ((M1 a0 4 c2) + 1)) a0 3 c2 (((gu M1 a0 4 c2 ((M1 a0 4 c2) + 1)) a0 3 c2) + 1)) h
    · have h := h.2 b36
      refine q_aload_n C 2 rfl rfl dX5_sumUpCell_48 ?_
      refine q_get (v := .ref (rh a0 1)) C fX5_44 hk0 (if_neg (Int.not_lt.mpr r4)) dX5_sumUpCell_49 (fun g37 => ?_)
      refine q_iload_n C 3 rfl rfl dX5_sumUpCell_52 ?_
      refine q_iconst C dX5_sumUpCell_53 ?_
      refine q_iadd C dX5_sumUpCell_54 ?_
      obtain ⟨r38, h⟩ := h
      refine q_bald C hk0 rfl (fun _ q => q) r38 dX5_sumUpCell_55 (fun g39 => ?_)
      have h := h g39
      refine q_if_lt (tgt := 63) C g39 (by decide) dX5_sumUpCell_56 (fun b40 => ?_) (fun b40 => ?_)
      · have h := h.1 b40
        refine q_lv (lv' := []) [] rfl ?_
        exact t63  ((gu (gu M1 a0 4 c2 ((M1 a0 4 c2) + 1)) a0 3 c2 (((gu M1 a0 4 c2 ((M1 a0 4 c2) + 1)) a0 3 c2) + 1)) a0 7 (-1)) (gu (gu M1 a0 4 c2 ((M1 a0 4 c2) + 1)) a0 3 c2 (((gu M1 a0 4 c2 ((M1 a0 4 c2) + 1)) a0 3 c2) + 1)) h
      · have h := h.2 b40
        refine q_iconst C dX5_sumUpCell_59 ?_
        refine q_goto (tgt := 64) C (by decide) dX5_sumUpCell_60 ?_
        refine q_lv (lv' := []) [] rfl ?_
        exact t64  1 ((gu (gu M1 a0 4 c2 ((M1 a0 4 c2) + 1)) a0 3 c2 (((gu M1 a0 4 c2 ((M1 a0 4 c2) + 1)) a0 3 c2) + 1)) a0 7 (-1)) (gu (gu M1 a0 4 c2 ((M1 a0 4 c2) + 1)) a0 3 c2 (((gu M1 a0 4 c2 ((M1 a0 4 c2) + 1)) a0 3 c2) + 1)) h
set_option maxHeartbeats 4000000 in
set_option maxRecDepth 100000 in
theorem mX5_sumUp (l : Launch) (D : va_G) (cy : Nat → ClassId) (kd : gKd) (ln : gLn) (rh : gRh) (post : gM → Prop) (a0 : Int) (M : gM) (hk0 : kd a0 = 5) (h : wX5_sumUp kd ln post a0 M) : gMV l D cy yX5_sumUp cX5_sumUp 3 2 44 [.ref (gad a0)] kd ln rh M post := by
  refine gMV_of (own := RX5) (by decide) rfl (Nat.le_of_ble_eq_true rfl) ?_
  intro p e s m args below meth c A H0 Q C hret
  have t33 : ∀ (k4 : Int → Int → gM → Prop), (∀ (x1 : Int), ∀ (x2 : Int), ∀ (M : gM), k4 x1 x2 M → gW p l e (gRm 2 44) s m args below meth c D cy A H0 Q 3 kd ln rh 0 0 M 4 [(0, .ref (gad a0)), (1, .int (gI x1)), (2, .int (gI x2))] []) → ∀ (x1 : Int) (x2 : Int) (M : gM), wX5_sumUp_33 kd ln post a0 k4 x1 x2 M → gW p l e (gRm 2 44) s m args below meth c D cy A H0 Q 3 kd ln rh 0 0 M 33 [(0, .ref (gad a0)), (1, .int (gI x1)), (2, .int (gI x2))] [] := by
    intro k4 hk4_ x1 x2 M h
    unfold wX5_sumUp_33 at h
    refine q_iinc (lv' := [(2, .int (gI (x2 + 1))), (0, .ref (gad a0)), (1, .int (gI x1))]) C 2 rfl (by decide) rfl dX5_sumUp_33 ?_
    refine q_goto (tgt := 4) C (by decide) dX5_sumUp_36 ?_
    refine q_lv (lv' := [(0, .ref (gad a0)), (1, .int (gI x1)), (2, .int (gI (x2 + 1)))]) [1, 2, 0] rfl ?_
    exact hk4_ x1 (x2 + 1) M h
  have t4 : ∀ (n : Nat) (x1 : Int) (x2 : Int) (M : gM), wX5_sumUp_4 kd ln post a0 n x1 x2 M → gW p l e (gRm 2 44) s m args below meth c D cy A H0 Q 3 kd ln rh 0 0 M 4 [(0, .ref (gad a0)), (1, .int (gI x1)), (2, .int (gI x2))] [] := by
    intro n
    induction n with
    | zero => intro x1 x2 M h; exact absurd h (by simp [wX5_sumUp_4])
    | succ n ih =>
      intro x1 x2 M h
      have hk4_ := ih
      rw [wX5_sumUp_4] at h
      refine q_iload_n C 2 rfl rfl dX5_sumUp_4 ?_
      refine q_aload_n C 0 rfl rfl dX5_sumUp_5 ?_
      obtain ⟨r1, h⟩ := h
      refine q_get (v := .ref (rh a0 1)) C fX5_44 hk0 (if_neg (Int.not_lt.mpr r1)) dX5_sumUp_6 (fun g2 => ?_)
      refine q_alen (t0 := 1) C hk0 rfl r1 dX5_sumUp_9 (fun g3 => ?_)
      have h := h g3
      have g4 : rng (ln a0 1) := ⟨by omega, by omega⟩
      obtain ⟨r5, h⟩ := h
      refine q_icmp_ge (tgt := 39) C r5 g4 (by decide) dX5_sumUp_10 (fun b6 => ?_) (fun b6 => ?_)
      · have h := h.1 b6
        exact hret M _ _ dX5_sumUp_39 h
      · have h := h.2 b6
        refine q_aload_n C 0 rfl rfl dX5_sumUp_13 ?_
        refine q_get (v := .ref (rh a0 1)) C fX5_44 hk0 (if_neg (Int.not_lt.mpr r1)) dX5_sumUp_14 (fun g7 => ?_)
        refine q_iload_n C 2 rfl rfl dX5_sumUp_17 ?_
        obtain ⟨r8, h⟩ := h
        refine q_bald C hk0 rfl (fun _ q => q) r8 dX5_sumUp_18 (fun g9 => ?_)
        have h := h g9
        refine q_bipush C (by decide) dX5_sumUp_19 ?_
        refine q_icmp_eq (tgt := 33) C g9 (show rng (-2) by decide) (by decide) dX5_sumUp_21 (fun b10 => ?_) (fun b10 => ?_)
        · have h := h.1 b10
          exact t33 (wX5_sumUp_4 kd ln post a0 n) hk4_ x1 x2 M h
        · have h := h.2 b10
          refine q_aload_n C 0 rfl rfl dX5_sumUp_24 ?_
          refine q_iload_n C 2 rfl rfl dX5_sumUp_25 ?_
          refine q_iload_n C 1 rfl rfl dX5_sumUp_26 ?_
          refine q_callVV (As := [.int (gI x2), .int (gI x1)]) (st := []) C vX5_88 kX5_sumUpCell ⟨Nat.le_of_ble_eq_true rfl, Nat.le_of_ble_eq_true rfl⟩ ⟨Nat.le_of_ble_eq_true rfl, Nat.le_of_ble_eq_true rfl⟩ rfl hk0 ⟨_, _, rfl⟩ (by decide) rfl (Nat.le_of_ble_eq_true rfl) (mX5_sumUpCell l D cy kd ln rh _ a0 x2 x1 M hk0 h) dX5_sumUp_27 (fun M11 h => ?_)
          refine q_iinc (lv' := [(1, .int (gI (x1 + 1))), (0, .ref (gad a0)), (2, .int (gI x2))]) C 1 rfl (by decide) rfl dX5_sumUp_30 ?_
          refine q_lv (lv' := [(0, .ref (gad a0)), (1, .int (gI (x1 + 1))), (2, .int (gI x2))]) [1, 0, 2] rfl ?_
          exact t33 (wX5_sumUp_4 kd ln post a0 n) hk4_ (x1 + 1) x2 M11 h
  unfold wX5_sumUp at h
  refine q_iconst C dX5_sumUp_0 ?_
  refine q_istore_n (lv' := [(1, .int (gI 0)), (0, .ref (gad a0))]) C rfl (by decide) rfl dX5_sumUp_1 ?_
  refine q_iconst C dX5_sumUp_2 ?_
  refine q_istore_n (lv' := [(2, .int (gI 0)), (1, .int (gI 0)), (0, .ref (gad a0))]) C rfl (by decide) rfl dX5_sumUp_3 ?_
  refine q_lv (lv' := [(0, .ref (gad a0)), (1, .int (gI 0)), (2, .int (gI 0))]) [2, 1, 0] rfl ?_
  obtain ⟨j4, h⟩ := h
  exact t4  j4 0 0 M h
set_option maxHeartbeats 4000000 in
set_option maxRecDepth 100000 in
theorem mX7_isNext (l : Launch) (D : va_G) (cy : Nat → ClassId) (kd : gKd) (ln : gLn) (rh : gRh) (post : Int → gM → Prop) (a0 : Int) (a1 : Int) (a2 : Int) (M : gM) (hk0 : kd a0 = 7) (h : wX7_isNext kd ln post a0 a1 a2 M) : gMI l D cy yX7_isNext cX7_isNext 5 .boolean 1 22 [.ref (gad a0), .int (gI a1), .int (gI a2)] kd ln rh M post := by
  refine gMI_ofZ (own := RX7) (by decide) rfl (Nat.le_of_ble_eq_true rfl) ?_
  intro p e s m args below meth c A H0 Q C hret
  unfold wX7_isNext at h
  refine q_iload_n C 1 rfl rfl dX7_isNext_0 ?_
  refine q_aload_n C 0 rfl rfl dX7_isNext_1 ?_
  refine q_get (v := .int (gI (M a0 1 (-1)))) C fX7_7 hk0 rfl dX7_isNext_2 (fun g1 => ?_)
  have h := h g1
  obtain ⟨r2, h⟩ := h
  refine q_irem C r2 dX7_isNext_5 ?_
  refine q_iload_n C 2 rfl rfl dX7_isNext_6 ?_
  refine q_aload_n C 0 rfl rfl dX7_isNext_7 ?_
  refine q_get (v := .int (gI (M a0 1 (-1)))) C fX7_7 hk0 rfl dX7_isNext_8 (fun g3 => ?_)
  obtain ⟨r4, h⟩ := h
  refine q_irem C r4 dX7_isNext_11 ?_
  refine q_isub C dX7_isNext_12 ?_
  refine q_topi (fun v5 ev5 => ?_)
  have h := h v5 ev5
  refine q_istore_n (lv' := [(3, .int (gI v5)), (0, .ref (gad a0)), (1, .int (gI a1)), (2, .int (gI a2))]) C rfl (by decide) rfl dX7_isNext_13 ?_
  refine q_iload_n C 2 rfl rfl dX7_isNext_14 ?_
  refine q_aload_n C 1 rfl rfl dX7_isNext_15 ?_
  refine q_get (v := .int (gI (M a0 1 (-1)))) C fX7_7 hk0 rfl dX7_isNext_16 (fun g6 => ?_)
  refine q_idiv C r2 dX7_isNext_19 ?_
  refine q_iload_n C 3 rfl rfl dX7_isNext_20 ?_
  refine q_aload_n C 1 rfl rfl dX7_isNext_21 ?_
  refine q_get (v := .int (gI (M a0 1 (-1)))) C fX7_7 hk0 rfl dX7_isNext_22 (fun g7 => ?_)
  refine q_idiv C r4 dX7_isNext_25 ?_
  refine q_isub C dX7_isNext_26 ?_
  refine q_topi (fun v8 ev8 => ?_)
  have h := h v8 ev8
  refine q_istore (lv' := [(4, .int (gI v8)), (3, .int (gI v5)), (0, .ref (gad a0)), (1, .int (gI a1)), (2, .int (gI a2))]) C (by decide) rfl dX7_isNext_27 ?_
  refine q_iload_n C 3 rfl rfl dX7_isNext_29 ?_
  refine q_iload_n C 4 rfl rfl dX7_isNext_30 ?_
  obtain ⟨r9, h⟩ := h
  obtain ⟨r10, h⟩ := h
  refine q_icmp_eq (tgt := 57) C r9 r10 (by decide) dX7_isNext_31 (fun b11 => ?_) (fun b11 => ?_)
  · have h := h.1 b11
    refine q_iconst C dX7_isNext_57 ?_
    exact hret 0 M _ _ dX7_isNext_58 (Or.inl rfl) h
  · have h := h.2 b11
    refine q_iload_n C 1 rfl rfl dX7_isNext_34 ?_
    refine q_iconst C dX7_isNext_35 ?_
    refine q_iconst C dX7_isNext_36 ?_
    refine q_callSI (As := [.int (gI v5), .int (gI (-1)), .int (gI 1)]) (st := []) C vX7_84 kX7_in ⟨Nat.le_of_ble_eq_true rfl, Nat.le_of_ble_eq_true rfl⟩ ⟨Nat.le_of_ble_eq_true rfl, Nat.le_of_ble_eq_true rfl⟩ rfl rfl (Nat.le_of_ble_eq_true rfl) (mX7_in l D cy kd ln rh _ v5 (-1) 1 M  h) dX7_isNext_37 (fun c13 M12 g14 h => ?_)
    have h := h g14
    refine q_if_eq (tgt := 57) C g14 (by decide) dX7_isNext_40 (fun b15 => ?_) (fun b15 => ?_)
    · have h := h.1 b15
      refine q_iconst C dX7_isNext_57 ?_
      exact hret 0 M12 _ _ dX7_isNext_58 (Or.inl rfl) h
    · have h := h.2 b15
      refine q_iload C 0 rfl dX7_isNext_43 ?_
      refine q_iconst C dX7_isNext_45 ?_
      refine q_iconst C dX7_isNext_46 ?_
      refine q_callSI (As := [.int (gI v8), .int (gI (-1)), .int (gI 1)]) (st := []) C vX7_84 kX7_in ⟨Nat.le_of_ble_eq_true rfl, Nat.le_of_ble_eq_true rfl⟩ ⟨Nat.le_of_ble_eq_true rfl, Nat.le_of_ble_eq_true rfl⟩ rfl rfl (Nat.le_of_ble_eq_true rfl) (mX7_in l D cy kd ln rh _ v8 (-1) 1 M12  h) dX7_isNext_47 (fun c17 M16 g18 h => ?_)
      have h := h g18
      refine q_if_eq (tgt := 57) C g18 (by decide) dX7_isNext_50 (fun b19 => ?_) (fun b19 => ?_)
      · have h := h.1 b19
        refine q_iconst C dX7_isNext_57 ?_
        exact hret 0 M16 _ _ dX7_isNext_58 (Or.inl rfl) h
      · have h := h.2 b19
        refine q_iconst C dX7_isNext_53 ?_
        refine q_goto (tgt := 58) C (by decide) dX7_isNext_54 ?_
        exact hret 1 M16 _ _ dX7_isNext_58 (Or.inr rfl) h
set_option maxHeartbeats 4000000 in
set_option maxRecDepth 100000 in
theorem mX7_sign (l : Launch) (D : va_G) (cy : Nat → ClassId) (kd : gKd) (ln : gLn) (rh : gRh) (post : Int → gM → Prop) (a0 : Int) (M : gM)  (h : wX7_sign kd ln post a0 M) : gMI l D cy yX7_sign cX7_sign 1 .int 0 0 [.int (gI a0)] kd ln rh M post := by
  refine gMI_of (own := RX7) (by decide) rfl (Nat.le_of_ble_eq_true rfl) ?_
  intro p e s m args below meth c A H0 Q C hret
  unfold wX7_sign at h
  refine q_iload_n C 0 rfl rfl dX7_sign_0 ?_
  obtain ⟨r1, h⟩ := h
  refine q_if_le (tgt := 8) C r1 (by decide) dX7_sign_1 (fun b2 => ?_) (fun b2 => ?_)
  · have h := h.1 b2
    refine q_iload_n C 0 rfl rfl dX7_sign_8 ?_
    refine q_if_ge (tgt := 16) C r1 (by decide) dX7_sign_9 (fun b3 => ?_) (fun b3 => ?_)
    · have h := h.1 b3
      refine q_iconst C dX7_sign_16 ?_
      exact hret 0 M _ _ dX7_sign_17 (show rng 0 by decide) h
    · have h := h.2 b3
      refine q_iconst C dX7_sign_12 ?_
      refine q_goto (tgt := 17) C (by decide) dX7_sign_13 ?_
      exact hret (-1) M _ _ dX7_sign_17 (show rng (-1) by decide) h
  · have h := h.2 b2
    refine q_iconst C dX7_sign_4 ?_
    refine q_goto (tgt := 17) C (by decide) dX7_sign_5 ?_
    exact hret 1 M _ _ dX7_sign_17 (show rng 1 by decide) h
set_option maxHeartbeats 4000000 in
set_option maxRecDepth 100000 in
theorem mX7_off (l : Launch) (D : va_G) (cy : Nat → ClassId) (kd : gKd) (ln : gLn) (rh : gRh) (post : Int → gM → Prop) (a0 : Int) (a1 : Int) (a2 : Int) (a3 : Int) (M : gM) (hk0 : kd a0 = 7) (h : wX7_off kd ln post a0 a1 a2 a3 M) : gMI l D cy yX7_off cX7_off 6 .int 1 22 [.ref (gad a0), .int (gI a1), .int (gI a2), .int (gI a3)] kd ln rh M post := by
  refine gMI_of (own := RX7) (by decide) rfl (Nat.le_of_ble_eq_true rfl) ?_
  intro p e s m args below meth c A H0 Q C hret
  unfold wX7_off at h
  refine q_iload_n C 1 rfl rfl dX7_off_0 ?_
  refine q_aload_n C 0 rfl rfl dX7_off_1 ?_
  refine q_get (v := .int (gI (M a0 1 (-1)))) C fX7_7 hk0 rfl dX7_off_2 (fun g1 => ?_)
  have h := h g1
  obtain ⟨r2, h⟩ := h
  refine q_irem C r2 dX7_off_5 ?_
  refine q_iload_n C 2 rfl rfl dX7_off_6 ?_
  refine q_iadd C dX7_off_7 ?_
  refine q_topi (fun v3 ev3 => ?_)
  have h := h v3 ev3
  refine q_istore (lv' := [(4, .int (gI v3)), (0, .ref (gad a0)), (1, .int (gI a1)), (2, .int (gI a2)), (3, .int (gI a3))]) C (by decide) rfl dX7_off_8 ?_
  refine q_iload_n C 2 rfl rfl dX7_off_10 ?_
  refine q_aload_n C 1 rfl rfl dX7_off_11 ?_
  refine q_get (v := .int (gI (M a0 1 (-1)))) C fX7_7 hk0 rfl dX7_off_12 (fun g4 => ?_)
  refine q_idiv C r2 dX7_off_15 ?_
  refine q_iload_n C 4 rfl rfl dX7_off_16 ?_
  refine q_iadd C dX7_off_17 ?_
  refine q_topi (fun v5 ev5 => ?_)
  have h := h v5 ev5
  refine q_istore (lv' := [(5, .int (gI v5)), (4, .int (gI v3)), (0, .ref (gad a0)), (1, .int (gI a1)), (2, .int (gI a2)), (3, .int (gI a3))]) C (by decide) rfl dX7_off_18 ?_
  refine q_iload C 1 rfl dX7_off_20 ?_
  refine q_iconst C dX7_off_22 ?_
  refine q_aload_n C 2 rfl rfl dX7_off_23 ?_
  refine q_get (v := .int (gI (M a0 1 (-1)))) C fX7_7 hk0 rfl dX7_off_24 (fun g6 => ?_)
  refine q_iconst C dX7_off_27 ?_
  refine q_isub C dX7_off_28 ?_
  refine q_callSI (As := [.int (gI v3), .int (gI 0), .int (gI ((M a0 1 (-1)) - 1))]) (st := []) C vX7_84 kX7_in ⟨Nat.le_of_ble_eq_true rfl, Nat.le_of_ble_eq_true rfl⟩ ⟨Nat.le_of_ble_eq_true rfl, Nat.le_of_ble_eq_true rfl⟩ rfl rfl (Nat.le_of_ble_eq_true rfl) (mX7_in l D cy kd ln rh _ v3 0 ((M a0 1 (-1)) - 1) M  h) dX7_off_29 (fun c8 M7 g9 h => ?_)
  have h := h g9
  refine q_if_eq (tgt := 63) C g9 (by decide) dX7_off_32 (fun b10 => ?_) (fun b10 => ?_)
  · have h := h.1 b10
    refine q_iconst C dX7_off_63 ?_
    exact hret (-1) M7 _ _ dX7_off_64 (show rng (-1) by decide) h
  · have h := h.2 b10
    refine q_iload C 0 rfl dX7_off_35 ?_
    refine q_iconst C dX7_off_37 ?_
    refine q_aload_n C 2 rfl rfl dX7_off_38 ?_
    refine q_get (v := .int (gI (M7 a0 1 (-1)))) C fX7_7 hk0 rfl dX7_off_39 (fun g11 => ?_)
    have h := h g11
    refine q_iconst C dX7_off_42 ?_
    refine q_isub C dX7_off_43 ?_
    refine q_callSI (As := [.int (gI v5), .int (gI 0), .int (gI ((M7 a0 1 (-1)) - 1))]) (st := []) C vX7_84 kX7_in ⟨Nat.le_of_ble_eq_true rfl, Nat.le_of_ble_eq_true rfl⟩ ⟨Nat.le_of_ble_eq_true rfl, Nat.le_of_ble_eq_true rfl⟩ rfl rfl (Nat.le_of_ble_eq_true rfl) (mX7_in l D cy kd ln rh _ v5 0 ((M7 a0 1 (-1)) - 1) M7  h) dX7_off_44 (fun c13 M12 g14 h => ?_)
    have h := h g14
    refine q_if_eq (tgt := 63) C g14 (by decide) dX7_off_47 (fun b15 => ?_) (fun b15 => ?_)
    · have h := h.1 b15
      refine q_iconst C dX7_off_63 ?_
      exact hret (-1) M12 _ _ dX7_off_64 (show rng (-1) by decide) h
    · have h := h.2 b15
      refine q_aload_n C 2 rfl rfl dX7_off_50 ?_
      refine q_get (v := .int (gI (M12 a0 1 (-1)))) C fX7_7 hk0 rfl dX7_off_51 (fun g16 => ?_)
      have h := h g16
      refine q_iload C 0 rfl dX7_off_54 ?_
      refine q_imul C dX7_off_56 ?_
      refine q_iload C 1 rfl dX7_off_57 ?_
      refine q_iadd C dX7_off_59 ?_
      refine q_goto (tgt := 64) C (by decide) dX7_off_60 ?_
      obtain ⟨r17, h⟩ := h
      exact hret (((M12 a0 1 (-1)) * v5) + v3) M12 _ _ dX7_off_64 r17 h
set_option maxHeartbeats 4000000 in
set_option maxRecDepth 100000 in
theorem mX7_attacks (l : Launch) (D : va_G) (cy : Nat → ClassId) (kd : gKd) (ln : gLn) (rh : gRh) (post : Int → gM → Prop) (a0 : Int) (a1 : Int) (a2 : Int) (a3 : Int) (a4 : Int) (a5 : Int) (M : gM) (hk0 : kd a0 = 7) (h : wX7_attacks kd ln post a0 a1 a2 a3 a4 a5 M) : gMI l D cy yX7_attacks cX7_attacks 9 .boolean 2 47 [.ref (gad a0), .int (gI a1), .int (gI a2), .int (gI a3), .int (gI a4), .int (gI a5)] kd ln rh M post := by
  refine gMI_ofZ (own := RX7) (by decide) rfl (Nat.le_of_ble_eq_true rfl) ?_
  intro p e s m args below meth c A H0 Q C hret
  have t57 : ∀ (M : gM), wX7_attacks_57 kd ln post a0 a1 a2 a3 a4 a5  M → gW p l e (gRm 2 47) s m args below meth c D cy A H0 Q 9 kd ln rh 0 0 M 57 [] [] := by
    intro   M h
    unfold wX7_attacks_57 at h
    refine q_iconst C dX7_attacks_57 ?_
    refine q_goto (tgt := 62) C (by decide) dX7_attacks_58 ?_
    exact hret 1 M _ _ dX7_attacks_62 (Or.inr rfl) h
  have t120 : ∀ (n : Nat) (x6 : Int) (x7 : Int) (x8 : Int) (M : gM), wX7_attacks_120 kd ln post a0 a1 a2 a3 a4 a5 n x6 x7 x8 M → gW p l e (gRm 2 47) s m args below meth c D cy A H0 Q 9 kd ln rh 0 0 M 120 [(0, .ref (gad a0)), (2, .int (gI a2)), (3, .int (gI a3)), (5, .int (gI a5)), (6, .int (gI x6)), (7, .int (gI x7)), (8, .int (gI x8))] [] := by
    intro n
    induction n with
    | zero => intro x6 x7 x8 M h; exact absurd h (by simp [wX7_attacks_120])
    | succ n ih =>
      intro x6 x7 x8 M h
      have hk120_ := ih
      rw [wX7_attacks_120] at h
      refine q_iload C 6 rfl dX7_attacks_120 ?_
      refine q_iload C 3 rfl dX7_attacks_122 ?_
      obtain ⟨r36, h⟩ := h
      obtain ⟨r37, h⟩ := h
      refine q_icmp_eq (tgt := 162) C r36 r37 (by decide) dX7_attacks_124 (fun b38 => ?_) (fun b38 => ?_)
      · have h := h.1 b38
        refine q_iconst C dX7_attacks_162 ?_
        exact hret 1 M _ _ dX7_attacks_163 (Or.inr rfl) h
      · have h := h.2 b38
        refine q_iload C 6 rfl dX7_attacks_127 ?_
        refine q_iload_n C 1 rfl rfl dX7_attacks_129 ?_
        obtain ⟨r39, h⟩ := h
        refine q_icmp_eq (tgt := 139) C r36 r39 (by decide) dX7_attacks_130 (fun b40 => ?_) (fun b40 => ?_)
        · have h := h.1 b40
          refine q_iconst C dX7_attacks_139 ?_
          exact hret 0 M _ _ dX7_attacks_140 (Or.inl rfl) h
        · have h := h.2 b40
          refine q_iload C 6 rfl dX7_attacks_133 ?_
          refine q_iload_n C 2 rfl rfl dX7_attacks_135 ?_
          obtain ⟨r41, h⟩ := h
          refine q_icmp_ne (tgt := 141) C r36 r41 (by decide) dX7_attacks_136 (fun b42 => ?_) (fun b42 => ?_)
          · have h := h.1 b42
            refine q_aload_n C 0 rfl rfl dX7_attacks_141 ?_
            refine q_iload C 6 rfl dX7_attacks_142 ?_
            refine q_iload C 4 rfl dX7_attacks_144 ?_
            refine q_callSI (As := [.int (gI x6)]) (st := [.int (gI x8), .ref (gad a0)]) C vX7_88 kX7_sign ⟨Nat.le_of_ble_eq_true rfl, Nat.le_of_ble_eq_true rfl⟩ ⟨Nat.le_of_ble_eq_true rfl, Nat.le_of_ble_eq_true rfl⟩ rfl rfl (Nat.le_of_ble_eq_true rfl) (mX7_sign l D cy kd ln rh _ x6 M  h) dX7_attacks_146 (fun c44 M43 g45 h => ?_)
            have h := h g45
            refine q_iload C 5 rfl dX7_attacks_149 ?_
            refine q_callSI (As := [.int (gI x7)]) (st := [.int (gI c44), .int (gI x8), .ref (gad a0)]) C vX7_88 kX7_sign ⟨Nat.le_of_ble_eq_true rfl, Nat.le_of_ble_eq_true rfl⟩ ⟨Nat.le_of_ble_eq_true rfl, Nat.le_of_ble_eq_true rfl⟩ rfl rfl (Nat.le_of_ble_eq_true rfl) (mX7_sign l D cy kd ln rh _ x7 M43  h) dX7_attacks_151 (fun c47 M46 g48 h => ?_)
            have h := h g48
            refine q_callVI (As := [.int (gI x8), .int (gI c44), .int (gI c47)]) (st := []) C vX7_92 kX7_off ⟨Nat.le_of_ble_eq_true rfl, Nat.le_of_ble_eq_true rfl⟩ ⟨Nat.le_of_ble_eq_true rfl, Nat.le_of_ble_eq_true rfl⟩ rfl hk0 ⟨_, _, rfl⟩ (by decide) rfl (Nat.le_of_ble_eq_true rfl) (mX7_off l D cy kd ln rh _ a0 x8 c44 c47 M46 hk0 h) dX7_attacks_154 (fun c50 M49 g51 h => ?_)
            have h := h g51
            refine q_istore (lv' := [(8, .int (gI c50)), (0, .ref (gad a0)), (2, .int (gI a2)), (3, .int (gI a3)), (5, .int (gI a5)), (6, .int (gI x6)), (7, .int (gI x7))]) C (by decide) rfl dX7_attacks_157 ?_
            refine q_goto (tgt := 120) C (by decide) dX7_attacks_159 ?_
            refine q_lv (lv' := [(0, .ref (gad a0)), (2, .int (gI a2)), (3, .int (gI a3)), (5, .int (gI a5)), (6, .int (gI x6)), (7, .int (gI x7)), (8, .int (gI c50))]) [1, 2, 3, 4, 5, 6, 0] rfl ?_
            exact hk120_ x6 x7 c50 M49 h
          · have h := h.2 b42
            refine q_iconst C dX7_attacks_139 ?_
            exact hret 0 M _ _ dX7_attacks_140 (Or.inl rfl) h
  have t102 : ∀ (x6 : Int) (x7 : Int) (M : gM), wX7_attacks_102 kd ln post a0 a1 a2 a3 a4 a5 x6 x7 M → gW p l e (gRm 2 47) s m args below meth c D cy A H0 Q 9 kd ln rh 0 0 M 102 [(0, .ref (gad a0)), (2, .int (gI a2)), (3, .int (gI a3)), (4, .int (gI a4)), (5, .int (gI a5)), (6, .int (gI x6)), (7, .int (gI x7))] [] := by
    intro  x6 x7 M h
    unfold wX7_attacks_102 at h
    refine q_aload_n C 0 rfl rfl dX7_attacks_102 ?_
    refine q_iload C 3 rfl dX7_attacks_103 ?_
    refine q_iload C 5 rfl dX7_attacks_105 ?_
    refine q_callSI (As := [.int (gI x6)]) (st := [.int (gI a4), .ref (gad a0)]) C vX7_88 kX7_sign ⟨Nat.le_of_ble_eq_true rfl, Nat.le_of_ble_eq_true rfl⟩ ⟨Nat.le_of_ble_eq_true rfl, Nat.le_of_ble_eq_true rfl⟩ rfl rfl (Nat.le_of_ble_eq_true rfl) (mX7_sign l D cy kd ln rh _ x6 M  h) dX7_attacks_107 (fun c28 M27 g29 h => ?_)
    have h := h g29
    refine q_iload C 6 rfl dX7_attacks_110 ?_
    refine q_callSI (As := [.int (gI x7)]) (st := [.int (gI c28), .int (gI a4), .ref (gad a0)]) C vX7_88 kX7_sign ⟨Nat.le_of_ble_eq_true rfl, Nat.le_of_ble_eq_true rfl⟩ ⟨Nat.le_of_ble_eq_true rfl, Nat.le_of_ble_eq_true rfl⟩ rfl rfl (Nat.le_of_ble_eq_true rfl) (mX7_sign l D cy kd ln rh _ x7 M27  h) dX7_attacks_112 (fun c31 M30 g32 h => ?_)
    have h := h g32
    refine q_callVI (As := [.int (gI a4), .int (gI c28), .int (gI c31)]) (st := []) C vX7_92 kX7_off ⟨Nat.le_of_ble_eq_true rfl, Nat.le_of_ble_eq_true rfl⟩ ⟨Nat.le_of_ble_eq_true rfl, Nat.le_of_ble_eq_true rfl⟩ rfl hk0 ⟨_, _, rfl⟩ (by decide) rfl (Nat.le_of_ble_eq_true rfl) (mX7_off l D cy kd ln rh _ a0 a4 c28 c31 M30 hk0 h) dX7_attacks_115 (fun c34 M33 g35 h => ?_)
    have h := h g35
    refine q_istore (lv' := [(8, .int (gI c34)), (0, .ref (gad a0)), (2, .int (gI a2)), (3, .int (gI a3)), (4, .int (gI a4)), (5, .int (gI a5)), (6, .int (gI x6)), (7, .int (gI x7))]) C (by decide) rfl dX7_attacks_118 ?_
    refine q_lv (lv' := [(0, .ref (gad a0)), (2, .int (gI a2)), (3, .int (gI a3)), (5, .int (gI a5)), (6, .int (gI x6)), (7, .int (gI x7)), (8, .int (gI c34))]) [1, 2, 3, 5, 6, 7, 0] rfl ?_
    obtain ⟨j120, h⟩ := h
    exact t120  j120 x6 x7 c34 M33 h
  unfold wX7_attacks at h
  refine q_iload C 5 rfl dX7_attacks_0 ?_
  refine q_aload_n C 0 rfl rfl dX7_attacks_2 ?_
  refine q_get (v := .int (gI (M a0 1 (-1)))) C fX7_7 hk0 rfl dX7_attacks_3 (fun g1 => ?_)
  have h := h g1
  obtain ⟨r2, h⟩ := h
  refine q_irem C r2 dX7_attacks_6 ?_
  refine q_iload C 4 rfl dX7_attacks_7 ?_
  refine q_aload_n C 0 rfl rfl dX7_attacks_9 ?_
  refine q_get (v := .int (gI (M a0 1 (-1)))) C fX7_7 hk0 rfl dX7_attacks_10 (fun g3 => ?_)
  obtain ⟨r4, h⟩ := h
  refine q_irem C r4 dX7_attacks_13 ?_
  refine q_isub C dX7_attacks_14 ?_
  refine q_topi (fun v5 ev5 => ?_)
  have h := h v5 ev5
  refine q_istore (lv' := [(6, .int (gI v5)), (0, .ref (gad a0)), (1, .int (gI a1)), (2, .int (gI a2)), (3, .int (gI a3)), (4, .int (gI a4)), (5, .int (gI a5))]) C (by decide) rfl dX7_attacks_15 ?_
  refine q_iload C 6 rfl dX7_attacks_17 ?_
  refine q_aload_n C 1 rfl rfl dX7_attacks_19 ?_
  refine q_get (v := .int (gI (M a0 1 (-1)))) C fX7_7 hk0 rfl dX7_attacks_20 (fun g6 => ?_)
  refine q_idiv C r2 dX7_attacks_23 ?_
  refine q_iload C 5 rfl dX7_attacks_24 ?_
  refine q_aload_n C 1 rfl rfl dX7_attacks_26 ?_
  refine q_get (v := .int (gI (M a0 1 (-1)))) C fX7_7 hk0 rfl dX7_attacks_27 (fun g7 => ?_)
  refine q_idiv C r4 dX7_attacks_30 ?_
  refine q_isub C dX7_attacks_31 ?_
  refine q_topi (fun v8 ev8 => ?_)
  have h := h v8 ev8
  refine q_istore (lv' := [(7, .int (gI v8)), (6, .int (gI v5)), (0, .ref (gad a0)), (1, .int (gI a1)), (2, .int (gI a2)), (3, .int (gI a3)), (4, .int (gI a4)), (5, .int (gI a5))]) C (by decide) rfl dX7_attacks_32 ?_
  refine q_iload_n C 3 rfl rfl dX7_attacks_34 ?_
  refine q_iconst C dX7_attacks_35 ?_
  obtain ⟨r9, h⟩ := h
  refine q_icmp_ne (tgt := 63) C r9 (show rng 2 by decide) (by decide) dX7_attacks_36 (fun b10 => ?_) (fun b10 => ?_)
  · have h := h.1 b10
    refine q_iload C 7 rfl dX7_attacks_63 ?_
    refine q_iload C 6 rfl dX7_attacks_65 ?_
    obtain ⟨r11, h⟩ := h
    obtain ⟨r12, h⟩ := h
    refine q_icmp_eq (tgt := 100) C r11 r12 (by decide) dX7_attacks_67 (fun b13 => ?_) (fun b13 => ?_)
    · have h := h.1 b13
      refine q_iconst C dX7_attacks_100 ?_
      exact hret 0 M _ _ dX7_attacks_101 (Or.inl rfl) h
    · have h := h.2 b13
      refine q_iload C 1 rfl dX7_attacks_70 ?_
      obtain ⟨r14, h⟩ := h
      refine q_if_eq (tgt := 102) C r14 (by decide) dX7_attacks_72 (fun b15 => ?_) (fun b15 => ?_)
      · have h := h.1 b15
        refine q_lv (lv' := [(0, .ref (gad a0)), (2, .int (gI a2)), (3, .int (gI a3)), (4, .int (gI a4)), (5, .int (gI a5)), (6, .int (gI v5)), (7, .int (gI v8))]) [2, 4, 5, 6, 7, 1, 0] rfl ?_
        exact t102  v5 v8 M h
      · have h := h.2 b15
        refine q_iload C 0 rfl dX7_attacks_75 ?_
        obtain ⟨r16, h⟩ := h
        refine q_if_eq (tgt := 102) C r16 (by decide) dX7_attacks_77 (fun b17 => ?_) (fun b17 => ?_)
        · have h := h.1 b17
          refine q_lv (lv' := [(0, .ref (gad a0)), (2, .int (gI a2)), (3, .int (gI a3)), (4, .int (gI a4)), (5, .int (gI a5)), (6, .int (gI v5)), (7, .int (gI v8))]) [2, 4, 5, 6, 7, 1, 0] rfl ?_
          exact t102  v5 v8 M h
        · have h := h.2 b17
          refine q_iload_n C 3 rfl rfl dX7_attacks_80 ?_
          refine q_iconst C dX7_attacks_81 ?_
          refine q_icmp_eq (tgt := 100) C r9 (show rng 1 by decide) (by decide) dX7_attacks_82 (fun b18 => ?_) (fun b18 => ?_)
          · have h := h.1 b18
            refine q_iconst C dX7_attacks_100 ?_
            exact hret 0 M _ _ dX7_attacks_101 (Or.inl rfl) h
          · have h := h.2 b18
            refine q_iload C 1 rfl dX7_attacks_85 ?_
            refine q_iload C 0 rfl dX7_attacks_87 ?_
            refine q_icmp_eq (tgt := 102) C r14 r16 (by decide) dX7_attacks_89 (fun b19 => ?_) (fun b19 => ?_)
            · have h := h.1 b19
              refine q_lv (lv' := [(0, .ref (gad a0)), (2, .int (gI a2)), (3, .int (gI a3)), (4, .int (gI a4)), (5, .int (gI a5)), (6, .int (gI v5)), (7, .int (gI v8))]) [2, 4, 5, 6, 7, 1, 0] rfl ?_
              exact t102  v5 v8 M h
            · have h := h.2 b19
              refine q_iload C 1 rfl dX7_attacks_92 ?_
              refine q_iload C 0 rfl dX7_attacks_94 ?_
              refine q_ineg C dX7_attacks_96 ?_
              obtain ⟨r20, h⟩ := h
              refine q_icmp_eq (tgt := 102) C r14 r20 (by decide) dX7_attacks_97 (fun b21 => ?_) (fun b21 => ?_)
              · have h := h.1 b21
                refine q_lv (lv' := [(0, .ref (gad a0)), (2, .int (gI a2)), (3, .int (gI a3)), (4, .int (gI a4)), (5, .int (gI a5)), (6, .int (gI v5)), (7, .int (gI v8))]) [2, 4, 5, 6, 7, 1, 0] rfl ?_
                exact t102  v5 v8 M h
              · have h := h.2 b21
                refine q_iconst C dX7_attacks_100 ?_
                exact hret 0 M _ _ dX7_attacks_101 (Or.inl rfl) h
  · have h := h.2 b10
    refine q_iload C 0 rfl dX7_attacks_39 ?_
    refine q_iconst C dX7_attacks_41 ?_
    obtain ⟨r22, h⟩ := h
    refine q_icmp_ne (tgt := 61) C r22 (show rng 1 by decide) (by decide) dX7_attacks_42 (fun b23 => ?_) (fun b23 => ?_)
    · have h := h.1 b23
      refine q_iconst C dX7_attacks_61 ?_
      exact hret 0 M _ _ dX7_attacks_62 (Or.inl rfl) h
    · have h := h.2 b23
      refine q_iload C 1 rfl dX7_attacks_45 ?_
      refine q_iconst C dX7_attacks_47 ?_
      obtain ⟨r24, h⟩ := h
      refine q_icmp_eq (tgt := 57) C r24 (show rng 1 by decide) (by decide) dX7_attacks_48 (fun b25 => ?_) (fun b25 => ?_)
      · have h := h.1 b25
        refine q_lv (lv' := []) [] rfl ?_
        exact t57  M h
      · have h := h.2 b25
        refine q_iload C 1 rfl dX7_attacks_51 ?_
        refine q_iconst C dX7_attacks_53 ?_
        refine q_icmp_ne (tgt := 61) C r24 (show rng (-1) by decide) (by decide) dX7_attacks_54 (fun b26 => ?_) (fun b26 => ?_)
        · have h := h.1 b26
          refine q_iconst C dX7_attacks_61 ?_
          exact hret 0 M _ _ dX7_attacks_62 (Or.inl rfl) h
        · have h := h.2 b26
          refine q_lv (lv' := []) [] rfl ?_
          exact t57  M h
set_option maxHeartbeats 4000000 in
set_option maxRecDepth 100000 in
theorem mX7_legal (l : Launch) (D : va_G) (cy : Nat → ClassId) (kd : gKd) (ln : gLn) (rh : gRh) (post : Int → gM → Prop) (a0 : Int) (a1 : Int) (a2 : Int) (a3 : Int) (a4 : Int) (a5 : Int) (M : gM) (hk0 : kd a0 = 7) (h : wX7_legal kd ln post a0 a1 a2 a3 a4 a5 M) : gMI l D cy yX7_legal cX7_legal 6 .boolean 3 75 [.ref (gad a0), .int (gI a1), .int (gI a2), .int (gI a3), .int (gI a4), .int (gI a5)] kd ln rh M post := by
  refine gMI_ofZ (own := RX7) (by decide) rfl (Nat.le_of_ble_eq_true rfl) ?_
  intro p e s m args below meth c A H0 Q C hret
  have t74 : ∀ (M : gM), wX7_legal_74 kd ln post a0 a1 a2 a3 a4 a5  M → gW p l e (gRm 3 75) s m args below meth c D cy A H0 Q 6 kd ln rh 0 0 M 74 [] [] := by
    intro   M h
    unfold wX7_legal_74 at h
    refine q_iconst C dX7_legal_74 ?_
    refine q_goto (tgt := 79) C (by decide) dX7_legal_75 ?_
    exact hret 1 M _ _ dX7_legal_79 (Or.inr rfl) h
  have t55 : ∀ (M : gM), wX7_legal_55 kd ln post a0 a1 a2 a3 a4 a5  M → gW p l e (gRm 3 75) s m args below meth c D cy A H0 Q 6 kd ln rh 0 0 M 55 [(0, .ref (gad a0)), (1, .int (gI a1)), (2, .int (gI a2)), (3, .int (gI a3)), (4, .int (gI a4)), (5, .int (gI a5))] [] := by
    intro   M h
    unfold wX7_legal_55 at h
    refine q_iload C 5 rfl dX7_legal_55 ?_
    refine q_iconst C dX7_legal_57 ?_
    obtain ⟨r20, h⟩ := h
    refine q_icmp_eq (tgt := 74) C r20 (show rng 1 by decide) (by decide) dX7_legal_58 (fun b21 => ?_) (fun b21 => ?_)
    · have h := h.1 b21
      refine q_lv (lv' := []) [] rfl ?_
      exact t74  M h
    · have h := h.2 b21
      refine q_aload_n C 0 rfl rfl dX7_legal_61 ?_
      refine q_iload_n C 1 rfl rfl dX7_legal_62 ?_
      refine q_iload_n C 2 rfl rfl dX7_legal_63 ?_
      refine q_iload_n C 3 rfl rfl dX7_legal_64 ?_
      refine q_iload C 4 rfl dX7_legal_65 ?_
      refine q_iload_n C 3 rfl rfl dX7_legal_67 ?_
      refine q_callVI (As := [.int (gI a1), .int (gI a2), .int (gI a3), .int (gI a4), .int (gI a3)]) (st := []) C vX7_100 kX7_attacks ⟨Nat.le_of_ble_eq_true rfl, Nat.le_of_ble_eq_true rfl⟩ ⟨Nat.le_of_ble_eq_true rfl, Nat.le_of_ble_eq_true rfl⟩ rfl hk0 ⟨_, _, rfl⟩ (by decide) rfl (Nat.le_of_ble_eq_true rfl) (mX7_attacks l D cy kd ln rh _ a0 a1 a2 a3 a4 a3 M hk0 h) dX7_legal_68 (fun c23 M22 g24 h => ?_)
      have h := h g24
      refine q_if_ne (tgt := 78) C g24 (by decide) dX7_legal_71 (fun b25 => ?_) (fun b25 => ?_)
      · have h := h.1 b25
        refine q_iconst C dX7_legal_78 ?_
        exact hret 0 M22 _ _ dX7_legal_79 (Or.inl rfl) h
      · have h := h.2 b25
        refine q_lv (lv' := []) [] rfl ?_
        exact t74  M22 h
  unfold wX7_legal at h
  refine q_iload_n C 2 rfl rfl dX7_legal_0 ?_
  refine q_iload_n C 3 rfl rfl dX7_legal_1 ?_
  obtain ⟨r1, h⟩ := h
  obtain ⟨r2, h⟩ := h
  refine q_icmp_eq (tgt := 26) C r1 r2 (by decide) dX7_legal_2 (fun b3 => ?_) (fun b3 => ?_)
  · have h := h.1 b3
    refine q_iconst C dX7_legal_26 ?_
    exact hret 0 M _ _ dX7_legal_27 (Or.inl rfl) h
  · have h := h.2 b3
    refine q_iload_n C 2 rfl rfl dX7_legal_5 ?_
    refine q_iload C 4 rfl dX7_legal_6 ?_
    obtain ⟨r4, h⟩ := h
    refine q_icmp_eq (tgt := 26) C r1 r4 (by decide) dX7_legal_8 (fun b5 => ?_) (fun b5 => ?_)
    · have h := h.1 b5
      refine q_iconst C dX7_legal_26 ?_
      exact hret 0 M _ _ dX7_legal_27 (Or.inl rfl) h
    · have h := h.2 b5
      refine q_iload_n C 3 rfl rfl dX7_legal_11 ?_
      refine q_iload C 4 rfl dX7_legal_12 ?_
      refine q_icmp_eq (tgt := 26) C r2 r4 (by decide) dX7_legal_14 (fun b6 => ?_) (fun b6 => ?_)
      · have h := h.1 b6
        refine q_iconst C dX7_legal_26 ?_
        exact hret 0 M _ _ dX7_legal_27 (Or.inl rfl) h
      · have h := h.2 b6
        refine q_aload_n C 0 rfl rfl dX7_legal_17 ?_
        refine q_iload_n C 2 rfl rfl dX7_legal_18 ?_
        refine q_iload_n C 3 rfl rfl dX7_legal_19 ?_
        refine q_callVI (As := [.int (gI a2), .int (gI a3)]) (st := []) C vX7_96 kX7_isNext ⟨Nat.le_of_ble_eq_true rfl, Nat.le_of_ble_eq_true rfl⟩ ⟨Nat.le_of_ble_eq_true rfl, Nat.le_of_ble_eq_true rfl⟩ rfl hk0 ⟨_, _, rfl⟩ (by decide) rfl (Nat.le_of_ble_eq_true rfl) (mX7_isNext l D cy kd ln rh _ a0 a2 a3 M hk0 h) dX7_legal_20 (fun c8 M7 g9 h => ?_)
        have h := h g9
        refine q_if_eq (tgt := 28) C g9 (by decide) dX7_legal_23 (fun b10 => ?_) (fun b10 => ?_)
        · have h := h.1 b10
          refine q_iload_n C 1 rfl rfl dX7_legal_28 ?_
          refine q_iconst C dX7_legal_29 ?_
          obtain ⟨r11, h⟩ := h
          refine q_icmp_ne (tgt := 55) C r11 (show rng 2 by decide) (by decide) dX7_legal_30 (fun b12 => ?_) (fun b12 => ?_)
          · have h := h.1 b12
            exact t55  M7 h
          · have h := h.2 b12
            refine q_iload C 4 rfl dX7_legal_33 ?_
            refine q_aload_n C 0 rfl rfl dX7_legal_35 ?_
            refine q_get (v := .int (gI (M7 a0 1 (-1)))) C fX7_7 hk0 rfl dX7_legal_36 (fun g13 => ?_)
            have h := h g13
            obtain ⟨r14, h⟩ := h
            refine q_idiv C r14 dX7_legal_39 ?_
            refine q_iconst C dX7_legal_40 ?_
            refine q_aload_n C 0 rfl rfl dX7_legal_41 ?_
            refine q_get (v := .int (gI (M7 a0 1 (-1)))) C fX7_7 hk0 rfl dX7_legal_42 (fun g15 => ?_)
            refine q_iconst C dX7_legal_45 ?_
            refine q_isub C dX7_legal_46 ?_
            refine q_callSI (As := [.int (gI (a4 / (M7 a0 1 (-1)))), .int (gI 1), .int (gI ((M7 a0 1 (-1)) - 2))]) (st := []) C vX7_84 kX7_in ⟨Nat.le_of_ble_eq_true rfl, Nat.le_of_ble_eq_true rfl⟩ ⟨Nat.le_of_ble_eq_true rfl, Nat.le_of_ble_eq_true rfl⟩ rfl rfl (Nat.le_of_ble_eq_true rfl) (mX7_in l D cy kd ln rh _ (a4 / (M7 a0 1 (-1))) 1 ((M7 a0 1 (-1)) - 2) M7  h) dX7_legal_47 (fun c17 M16 g18 h => ?_)
            have h := h g18
            refine q_if_ne (tgt := 55) C g18 (by decide) dX7_legal_50 (fun b19 => ?_) (fun b19 => ?_)
            · have h := h.1 b19
              exact t55  M16 h
            · have h := h.2 b19
              refine q_iconst C dX7_legal_53 ?_
              exact hret 0 M16 _ _ dX7_legal_54 (Or.inl rfl) h
        · have h := h.2 b10
          refine q_iconst C dX7_legal_26 ?_
          exact hret 0 M7 _ _ dX7_legal_27 (Or.inl rfl) h
set_option maxHeartbeats 4000000 in
set_option maxRecDepth 100000 in
theorem mX7_add (l : Launch) (D : va_G) (cy : Nat → ClassId) (kd : gKd) (ln : gLn) (rh : gRh) (post : gM → Prop) (a0 : Int) (a1 : Int) (a2 : Int) (a3 : Int) (a4 : Int) (a5 : Int) (a6 : Int) (a7 : Int) (M : gM) (hk0 : kd a0 = 7) (h : wX7_add kd ln post a0 a1 a2 a3 a4 a5 a6 a7 M) : gMV l D cy yX7_add cX7_add 9 0 0 [.ref (gad a0), .int (gI a1), .int (gI a2), .int (gI a3), .int (gI a4), .int (gI a5), .int (gI a6), .int (gI a7)] kd ln rh M post := by
  refine gMV_of (own := RX7) (by decide) rfl (Nat.le_of_ble_eq_true rfl) ?_
  intro p e s m args below meth c A H0 Q C hret
  have t50 : ∀ (k6 : Int → gM → Prop), (∀ (x8 : Int), ∀ (M : gM), k6 x8 M → gW p l e (gRm 0 0) s m args below meth c D cy A H0 Q 9 kd ln rh 0 0 M 6 [(0, .ref (gad a0)), (1, .int (gI a1)), (2, .int (gI a2)), (3, .int (gI a3)), (4, .int (gI a4)), (5, .int (gI a5)), (6, .int (gI a6)), (7, .int (gI a7)), (8, .int (gI x8))] []) → ∀ (x8 : Int) (M : gM), wX7_add_50 kd ln post a0 a1 a2 a3 a4 a5 a6 a7 k6 x8 M → gW p l e (gRm 0 0) s m args below meth c D cy A H0 Q 9 kd ln rh 0 0 M 50 [(0, .ref (gad a0)), (1, .int (gI a1)), (2, .int (gI a2)), (3, .int (gI a3)), (4, .int (gI a4)), (5, .int (gI a5)), (6, .int (gI a6)), (7, .int (gI a7)), (8, .int (gI x8))] [] := by
    intro k6 hk6_ x8 M h
    unfold wX7_add_50 at h
    refine q_aload_n C 0 rfl rfl dX7_add_50 ?_
    obtain ⟨r20, h⟩ := h
    refine q_get (v := .ref (rh a0 13)) C fX7_42 hk0 (if_neg (Int.not_lt.mpr r20)) dX7_add_51 (fun g21 => ?_)
    refine q_iload C 8 rfl dX7_add_54 ?_
    refine q_aload_n C 0 rfl rfl dX7_add_56 ?_
    refine q_get (v := .ref (rh a0 13)) C fX7_42 hk0 (if_neg (Int.not_lt.mpr r20)) dX7_add_57 (fun g22 => ?_)
    refine q_iload C 8 rfl dX7_add_60 ?_
    refine q_iconst C dX7_add_62 ?_
    refine q_isub C dX7_add_63 ?_
    obtain ⟨r23, h⟩ := h
    refine q_iald C hk0 rfl (fun _ q => q) r23 dX7_add_64 (fun g24 => ?_)
    have h := h g24
    obtain ⟨r25, h⟩ := h
    refine q_iast C hk0 rfl g24 r25 dX7_add_65 ?_
    refine q_aload_n C 0 rfl rfl dX7_add_66 ?_
    obtain ⟨r26, h⟩ := h
    refine q_get (v := .ref (rh a0 14)) C fX7_45 hk0 (if_neg (Int.not_lt.mpr r26)) dX7_add_67 (fun g27 => ?_)
    refine q_iload C 8 rfl dX7_add_70 ?_
    refine q_aload_n C 0 rfl rfl dX7_add_72 ?_
    refine q_get (v := .ref (rh a0 14)) C fX7_45 hk0 (if_neg (Int.not_lt.mpr r26)) dX7_add_73 (fun g28 => ?_)
    refine q_iload C 8 rfl dX7_add_76 ?_
    refine q_iconst C dX7_add_78 ?_
    refine q_isub C dX7_add_79 ?_
    obtain ⟨r29, h⟩ := h
    refine q_iald C hk0 rfl (fun _ q => q) r29 dX7_add_80 (fun g30 => ?_)
    have h := h g30
    obtain ⟨r31, h⟩ := h
    refine q_iast C hk0 rfl g30 r31 dX7_add_81 ?_
    refine q_aload_n C 0 rfl rfl dX7_add_82 ?_
    obtain ⟨r32, h⟩ := h
    refine q_get (v := .ref (rh a0 15)) C fX7_48 hk0 (if_neg (Int.not_lt.mpr r32)) dX7_add_83 (fun g33 => ?_)
    refine q_iload C 8 rfl dX7_add_86 ?_
    refine q_aload_n C 0 rfl rfl dX7_add_88 ?_
    refine q_get (v := .ref (rh a0 15)) C fX7_48 hk0 (if_neg (Int.not_lt.mpr r32)) dX7_add_89 (fun g34 => ?_)
    refine q_iload C 8 rfl dX7_add_92 ?_
    refine q_iconst C dX7_add_94 ?_
    refine q_isub C dX7_add_95 ?_
    obtain ⟨r35, h⟩ := h
    refine q_iald C hk0 rfl (fun _ q => q) r35 dX7_add_96 (fun g36 => ?_)
    have h := h g36
    obtain ⟨r37, h⟩ := h
    refine q_iast C hk0 rfl g36 r37 dX7_add_97 ?_
    refine q_aload_n C 0 rfl rfl dX7_add_98 ?_
    obtain ⟨r38, h⟩ := h
    refine q_get (v := .ref (rh a0 16)) C fX7_51 hk0 (if_neg (Int.not_lt.mpr r38)) dX7_add_99 (fun g39 => ?_)
    refine q_iload C 8 rfl dX7_add_102 ?_
    refine q_aload_n C 0 rfl rfl dX7_add_104 ?_
    refine q_get (v := .ref (rh a0 16)) C fX7_51 hk0 (if_neg (Int.not_lt.mpr r38)) dX7_add_105 (fun g40 => ?_)
    refine q_iload C 8 rfl dX7_add_108 ?_
    refine q_iconst C dX7_add_110 ?_
    refine q_isub C dX7_add_111 ?_
    obtain ⟨r41, h⟩ := h
    refine q_iald C hk0 rfl (fun _ q => q) r41 dX7_add_112 (fun g42 => ?_)
    have h := h g42
    obtain ⟨r43, h⟩ := h
    refine q_iast C hk0 rfl g42 r43 dX7_add_113 ?_
    refine q_aload_n C 0 rfl rfl dX7_add_114 ?_
    obtain ⟨r44, h⟩ := h
    refine q_get (v := .ref (rh a0 17)) C fX7_54 hk0 (if_neg (Int.not_lt.mpr r44)) dX7_add_115 (fun g45 => ?_)
    refine q_iload C 8 rfl dX7_add_118 ?_
    refine q_aload_n C 0 rfl rfl dX7_add_120 ?_
    refine q_get (v := .ref (rh a0 17)) C fX7_54 hk0 (if_neg (Int.not_lt.mpr r44)) dX7_add_121 (fun g46 => ?_)
    refine q_iload C 8 rfl dX7_add_124 ?_
    refine q_iconst C dX7_add_126 ?_
    refine q_isub C dX7_add_127 ?_
    obtain ⟨r47, h⟩ := h
    refine q_iald C hk0 rfl (fun _ q => q) r47 dX7_add_128 (fun g48 => ?_)
    have h := h g48
    obtain ⟨r49, h⟩ := h
    refine q_iast C hk0 rfl g48 r49 dX7_add_129 ?_
    refine q_aload_n C 0 rfl rfl dX7_add_130 ?_
    obtain ⟨r50, h⟩ := h
    refine q_get (v := .ref (rh a0 18)) C fX7_57 hk0 (if_neg (Int.not_lt.mpr r50)) dX7_add_131 (fun g51 => ?_)
    refine q_iload C 8 rfl dX7_add_134 ?_
    refine q_aload_n C 0 rfl rfl dX7_add_136 ?_
    refine q_get (v := .ref (rh a0 18)) C fX7_57 hk0 (if_neg (Int.not_lt.mpr r50)) dX7_add_137 (fun g52 => ?_)
    refine q_iload C 8 rfl dX7_add_140 ?_
    refine q_iconst C dX7_add_142 ?_
    refine q_isub C dX7_add_143 ?_
    obtain ⟨r53, h⟩ := h
    refine q_iald C hk0 rfl (fun _ q => q) r53 dX7_add_144 (fun g54 => ?_)
    have h := h g54
    obtain ⟨r55, h⟩ := h
    refine q_iast C hk0 rfl g54 r55 dX7_add_145 ?_
    refine q_aload_n C 0 rfl rfl dX7_add_146 ?_
    obtain ⟨r56, h⟩ := h
    refine q_get (v := .ref (rh a0 19)) C fX7_60 hk0 (if_neg (Int.not_lt.mpr r56)) dX7_add_147 (fun g57 => ?_)
    refine q_iload C 8 rfl dX7_add_150 ?_
    refine q_aload_n C 0 rfl rfl dX7_add_152 ?_
    refine q_get (v := .ref (rh a0 19)) C fX7_60 hk0 (if_neg (Int.not_lt.mpr r56)) dX7_add_153 (fun g58 => ?_)
    refine q_iload C 8 rfl dX7_add_156 ?_
    refine q_iconst C dX7_add_158 ?_
    refine q_isub C dX7_add_159 ?_
    obtain ⟨r59, h⟩ := h
    refine q_iald C hk0 rfl (fun _ q => q) r59 dX7_add_160 (fun g60 => ?_)
    have h := h g60
    obtain ⟨r61, h⟩ := h
    refine q_iast C hk0 rfl g60 r61 dX7_add_161 ?_
    refine q_iinc (lv' := [(8, .int (gI (x8 + (-1)))), (0, .ref (gad a0)), (1, .int (gI a1)), (2, .int (gI a2)), (3, .int (gI a3)), (4, .int (gI a4)), (5, .int (gI a5)), (6, .int (gI a6)), (7, .int (gI a7))]) C 8 rfl (by decide) rfl dX7_add_162 ?_
    refine q_goto (tgt := 6) C (by decide) dX7_add_165 ?_
    refine q_lv (lv' := [(0, .ref (gad a0)), (1, .int (gI a1)), (2, .int (gI a2)), (3, .int (gI a3)), (4, .int (gI a4)), (5, .int (gI a5)), (6, .int (gI a6)), (7, .int (gI a7)), (8, .int (gI (x8 + (-1))))]) [1, 2, 3, 4, 5, 6, 7, 8, 0] rfl ?_
    exact hk6_ (x8 + (-1)) (gu (gu (gu (gu (gu (gu (gu M a0 13 x8 (M a0 13 (x8 - 1))) a0 14 x8 ((gu M a0 13 x8 (M a0 13 (x8 - 1))) a0 14 (x8 - 1))) a0 15 x8 ((gu (gu M a0 13 x8 (M a0 13 (x8 - 1))) a0 14 x8 ((gu M a0 13 x8 (M a0 13 (x8 - 1))) a0 14 (x8 - 1))) a0 15 (x8 - 1))) a0 16 x8 ((gu (gu (gu M a0 13 x8 (M a0 13 (x8 - 1))) a0 14 x8 ((gu M a0 13 x8 (M a0 13 (x8 - 1))) a0 14 (x8 - 1))) a0 15 x8 ((gu (gu M a0 13 x8 (M a0 13 (x8 - 1))) a0 14 x8 ((gu M a0 13 x8 (M a0 13 (x8 - 1))) a0 14 (x8 - 1))) a0 15 (x8 - 1))) a0 16 (x8 - 1))) a0 17 x8 ((gu (gu (gu (gu M a0 13 x8 (M a0 13 (x8 - 1))) a0 14 x8 ((gu M a0 13 x8 (M a0 13 (x8 - 1))) a0 14 (x8 - 1))) a0 15 x8 ((gu (gu M a0 13 x8 (M a0 13 (x8 - 1))) a0 14 x8 ((gu M a0 13 x8 (M a0 13 (x8 - 1))) a0 14 (x8 - 1))) a0 15 (x8 - 1))) a0 16 x8 ((gu (gu (gu M a0 13 x8 (M a0 13 (x8 - 1))) a0 14 x8 ((gu M a0 13 x8 (M a0 13 (x8 - 1))) a0 14 (x8 - 1))) a0 15 x8 ((gu (gu M a0 13 x8 (M a0 13 (x8 - 1))) a0 14 x8 ((gu M a0 13 x8 (M a0 13 (x8 - 1))) a0 14 (x8 - 1))) a0 15 (x8 - 1))) a0 16 (x8 - 1))) a0 17 (x8 - 1))) a0 18 x8 ((gu (gu (gu (gu (gu M a0 13 x8 (M a0 13 (x8 - 1))) a0 14 x8 ((gu M a0 13 x8 (M a0 13 (x8 - 1))) a0 14 (x8 - 1))) a0 15 x8 ((gu (gu M a0 13 x8 (M a0 13 (x8 - 1))) a0 14 x8 ((gu M a0 13 x8 (M a0 13 (x8 - 1))) a0 14 (x8 - 1))) a0 15 (x8 - 1))) a0 16 x8 ((gu (gu (gu M a0 13 x8 (M a0 13 (x8 - 1))) a0 14 x8 ((gu M a0 13 x8 (M a0 13 (x8 - 1))) a0 14 (x8 - 1))) a0 15 x8 ((gu (gu M a0 13 x8 (M a0 13 (x8 - 1))) a0 14 x8 ((gu M a0 13 x8 (M a0 13 (x8 - 1))) a0 14 (x8 - 1))) a0 15 (x8 - 1))) a0 16 (x8 - 1))) a0 17 x8 ((gu (gu (gu (gu M a0 13 x8 (M a0 13 (x8 - 1))) a0 14 x8 ((gu M a0 13 x8 (M a0 13 (x8 - 1))) a0 14 (x8 - 1))) a0 15 x8 ((gu (gu M a0 13 x8 (M a0 13 (x8 - 1))) a0 14 x8 ((gu M a0 13 x8 (M a0 13 (x8 - 1))) a0 14 (x8 - 1))) a0 15 (x8 - 1))) a0 16 x8 ((gu (gu (gu M a0 13 x8 (M a0 13 (x8 - 1))) a0 14 x8 ((gu M a0 13 x8 (M a0 13 (x8 - 1))) a0 14 (x8 - 1))) a0 15 x8 ((gu (gu M a0 13 x8 (M a0 13 (x8 - 1))) a0 14 x8 ((gu M a0 13 x8 (M a0 13 (x8 - 1))) a0 14 (x8 - 1))) a0 15 (x8 - 1))) a0 16 (x8 - 1))) a0 17 (x8 - 1))) a0 18 (x8 - 1))) a0 19 x8 ((gu (gu (gu (gu (gu (gu M a0 13 x8 (M a0 13 (x8 - 1))) a0 14 x8 ((gu M a0 13 x8 (M a0 13 (x8 - 1))) a0 14 (x8 - 1))) a0 15 x8 ((gu (gu M a0 13 x8 (M a0 13 (x8 - 1))) a0 14 x8 ((gu M a0 13 x8 (M a0 13 (x8 - 1))) a0 14 (x8 - 1))) a0 15 (x8 - 1))) a0 16 x8 ((gu (gu (gu M a0 13 x8 (M a0 13 (x8 - 1))) a0 14 x8 ((gu M a0 13 x8 (M a0 13 (x8 - 1))) a0 14 (x8 - 1))) a0 15 x8 ((gu (gu M a0 13 x8 (M a0 13 (x8 - 1))) a0 14 x8 ((gu M a0 13 x8 (M a0 13 (x8 - 1))) a0 14 (x8 - 1))) a0 15 (x8 - 1))) a0 16 (x8 - 1))) a0 17 x8 ((gu (gu (gu (gu M a0 13 x8 (M a0 13 (x8 - 1))) a0 14 x8 ((gu M a0 13 x8 (M a0 13 (x8 - 1))) a0 14 (x8 - 1))) a0 15 x8 ((gu (gu M a0 13 x8 (M a0 13 (x8 - 1))) a0 14 x8 ((gu M a0 13 x8 (M a0 13 (x8 - 1))) a0 14 (x8 - 1))) a0 15 (x8 - 1))) a0 16 x8 ((gu (gu (gu M a0 13 x8 (M a0 13 (x8 - 1))) a0 14 x8 ((gu M a0 13 x8 (M a0 13 (x8 - 1))) a0 14 (x8 - 1))) a0 15 x8 ((gu (gu M a0 13 x8 (M a0 13 (x8 - 1))) a0 14 x8 ((gu M a0 13 x8 (M a0 13 (x8 - 1))) a0 14 (x8 - 1))) a0 15 (x8 - 1))) a0 16 (x8 - 1))) a0 17 (x8 - 1))) a0 18 x8 ((gu (gu (gu (gu (gu M a0 13 x8 (M a0 13 (x8 - 1))) a0 14 x8 ((gu M a0 13 x8 (M a0 13 (x8 - 1))) a0 14 (x8 - 1))) a0 15 x8 ((gu (gu M a0 13 x8 (M a0 13 (x8 - 1))) a0 14 x8 ((gu M a0 13 x8 (M a0 13 (x8 - 1))) a0 14 (x8 - 1))) a0 15 (x8 - 1))) a0 16 x8 ((gu (gu (gu M a0 13 x8 (M a0 13 (x8 - 1))) a0 14 x8 ((gu M a0 13 x8 (M a0 13 (x8 - 1))) a0 14 (x8 - 1))) a0 15 x8 ((gu (gu M a0 13 x8 (M a0 13 (x8 - 1))) a0 14 x8 ((gu M a0 13 x8 (M a0 13 (x8 - 1))) a0 14 (x8 - 1))) a0 15 (x8 - 1))) a0 16 (x8 - 1))) a0 17 x8 ((gu (gu (gu (gu M a0 13 x8 (M a0 13 (x8 - 1))) a0 14 x8 ((gu M a0 13 x8 (M a0 13 (x8 - 1))) a0 14 (x8 - 1))) a0 15 x8 ((gu (gu M a0 13 x8 (M a0 13 (x8 - 1))) a0 14 x8 ((gu M a0 13 x8 (M a0 13 (x8 - 1))) a0 14 (x8 - 1))) a0 15 (x8 - 1))) a0 16 x8 ((gu (gu (gu M a0 13 x8 (M a0 13 (x8 - 1))) a0 14 x8 ((gu M a0 13 x8 (M a0 13 (x8 - 1))) a0 14 (x8 - 1))) a0 15 x8 ((gu (gu M a0 13 x8 (M a0 13 (x8 - 1))) a0 14 x8 ((gu M a0 13 x8 (M a0 13 (x8 - 1))) a0 14 (x8 - 1))) a0 15 (x8 - 1))) a0 16 (x8 - 1))) a0 17 (x8 - 1))) a0 18 (x8 - 1))) a0 19 (x8 - 1))) h
  have t168 : ∀ (x8 : Int) (M : gM), wX7_add_168 kd ln post a0 a1 a2 a3 a4 a5 a6 a7 x8 M → gW p l e (gRm 0 0) s m args below meth c D cy A H0 Q 9 kd ln rh 0 0 M 168 [(0, .ref (gad a0)), (1, .int (gI a1)), (2, .int (gI a2)), (3, .int (gI a3)), (4, .int (gI a4)), (5, .int (gI a5)), (6, .int (gI a6)), (7, .int (gI a7)), (8, .int (gI x8))] [] := by
    intro  x8 M h
    unfold wX7_add_168 at h
    refine q_aload_n C 0 rfl rfl dX7_add_168 ?_
    obtain ⟨r62, h⟩ := h
    refine q_get (v := .ref (rh a0 13)) C fX7_42 hk0 (if_neg (Int.not_lt.mpr r62)) dX7_add_169 (fun g63 => ?_)
    refine q_iload C 8 rfl dX7_add_172 ?_
    refine q_iload_n C 1 rfl rfl dX7_add_174 ?_
    obtain ⟨r64, h⟩ := h
    obtain ⟨r65, h⟩ := h
    refine q_iast C hk0 rfl r65 r64 dX7_add_175 ?_
    refine q_aload_n C 0 rfl rfl dX7_add_176 ?_
    obtain ⟨r66, h⟩ := h
    refine q_get (v := .ref (rh a0 14)) C fX7_45 hk0 (if_neg (Int.not_lt.mpr r66)) dX7_add_177 (fun g67 => ?_)
    refine q_iload C 8 rfl dX7_add_180 ?_
    refine q_iload_n C 2 rfl rfl dX7_add_182 ?_
    obtain ⟨r68, h⟩ := h
    obtain ⟨r69, h⟩ := h
    refine q_iast C hk0 rfl r69 r68 dX7_add_183 ?_
    refine q_aload_n C 0 rfl rfl dX7_add_184 ?_
    obtain ⟨r70, h⟩ := h
    refine q_get (v := .ref (rh a0 15)) C fX7_48 hk0 (if_neg (Int.not_lt.mpr r70)) dX7_add_185 (fun g71 => ?_)
    refine q_iload C 8 rfl dX7_add_188 ?_
    refine q_iload_n C 3 rfl rfl dX7_add_190 ?_
    obtain ⟨r72, h⟩ := h
    obtain ⟨r73, h⟩ := h
    refine q_iast C hk0 rfl r73 r72 dX7_add_191 ?_
    refine q_aload_n C 0 rfl rfl dX7_add_192 ?_
    obtain ⟨r74, h⟩ := h
    refine q_get (v := .ref (rh a0 16)) C fX7_51 hk0 (if_neg (Int.not_lt.mpr r74)) dX7_add_193 (fun g75 => ?_)
    refine q_iload C 8 rfl dX7_add_196 ?_
    refine q_iload C 4 rfl dX7_add_198 ?_
    obtain ⟨r76, h⟩ := h
    obtain ⟨r77, h⟩ := h
    refine q_iast C hk0 rfl r77 r76 dX7_add_200 ?_
    refine q_aload_n C 0 rfl rfl dX7_add_201 ?_
    obtain ⟨r78, h⟩ := h
    refine q_get (v := .ref (rh a0 17)) C fX7_54 hk0 (if_neg (Int.not_lt.mpr r78)) dX7_add_202 (fun g79 => ?_)
    refine q_iload C 8 rfl dX7_add_205 ?_
    refine q_iload C 5 rfl dX7_add_207 ?_
    obtain ⟨r80, h⟩ := h
    obtain ⟨r81, h⟩ := h
    refine q_iast C hk0 rfl r81 r80 dX7_add_209 ?_
    refine q_aload_n C 0 rfl rfl dX7_add_210 ?_
    obtain ⟨r82, h⟩ := h
    refine q_get (v := .ref (rh a0 18)) C fX7_57 hk0 (if_neg (Int.not_lt.mpr r82)) dX7_add_211 (fun g83 => ?_)
    refine q_iload C 8 rfl dX7_add_214 ?_
    refine q_iload C 6 rfl dX7_add_216 ?_
    obtain ⟨r84, h⟩ := h
    obtain ⟨r85, h⟩ := h
    refine q_iast C hk0 rfl r85 r84 dX7_add_218 ?_
    refine q_aload_n C 0 rfl rfl dX7_add_219 ?_
    obtain ⟨r86, h⟩ := h
    refine q_get (v := .ref (rh a0 19)) C fX7_60 hk0 (if_neg (Int.not_lt.mpr r86)) dX7_add_220 (fun g87 => ?_)
    refine q_iload C 8 rfl dX7_add_223 ?_
    refine q_iload C 7 rfl dX7_add_225 ?_
    obtain ⟨r88, h⟩ := h
    obtain ⟨r89, h⟩ := h
    refine q_iast C hk0 rfl r89 r88 dX7_add_227 ?_
    refine q_aload_n C 0 rfl rfl dX7_add_228 ?_
    refine q_dup C rfl dX7_add_229 ?_
    refine q_get (v := .int (gI ((gu (gu (gu (gu (gu (gu (gu M a0 13 x8 a1) a0 14 x8 a2) a0 15 x8 a3) a0 16 x8 a4) a0 17 x8 a5) a0 18 x8 a6) a0 19 x8 a7) a0 12 (-1)))) C fX7_104 hk0 rfl dX7_add_230 (fun g90 => ?_)
    have h := h g90
    refine q_iconst C dX7_add_233 ?_
    refine q_iadd C dX7_add_234 ?_
    obtain ⟨r91, h⟩ := h
    refine q_put (x := (((gu (gu (gu (gu (gu (gu (gu M a0 13 x8 a1) a0 14 x8 a2) a0 15 x8 a3) a0 16 x8 a4) a0 17 x8 a5) a0 18 x8 a6) a0 19 x8 a7) a0 12 (-1)) + 1)) (ty := .int) C fX7_104 hk0 (fun _ _ _ q => by cases q; rfl) (congrArg (fun z => Value.int (gI z)) gu_s) rfl rfl r91 (fun j q => absurd (show (0 : Nat) = j + 3 from q) (by omega)) dX7_add_235 ?_
    exact hret (gu (gu (gu (gu (gu (gu (gu (gu M a0 13 x8 a1) a0 14 x8 a2) a0 15 x8 a3) a0 16 x8 a4) a0 17 x8 a5) a0 18 x8 a6) a0 19 x8 a7) a0 12 (-1) (((gu (gu (gu (gu (gu (gu (gu M a0 13 x8 a1) a0 14 x8 a2) a0 15 x8 a3) a0 16 x8 a4) a0 17 x8 a5) a0 18 x8 a6) a0 19 x8 a7) a0 12 (-1)) + 1)) _ _ dX7_add_238 h
  have t6 : ∀ (n : Nat) (x8 : Int) (M : gM), wX7_add_6 kd ln post a0 a1 a2 a3 a4 a5 a6 a7 n x8 M → gW p l e (gRm 0 0) s m args below meth c D cy A H0 Q 9 kd ln rh 0 0 M 6 [(0, .ref (gad a0)), (1, .int (gI a1)), (2, .int (gI a2)), (3, .int (gI a3)), (4, .int (gI a4)), (5, .int (gI a5)), (6, .int (gI a6)), (7, .int (gI a7)), (8, .int (gI x8))] [] := by
    intro n
    induction n with
    | zero => intro x8 M h; exact absurd h (by simp [wX7_add_6])
    | succ n ih =>
      intro x8 M h
      have hk6_ := ih
      rw [wX7_add_6] at h
      refine q_iload C 8 rfl dX7_add_6 ?_
      obtain ⟨r3, h⟩ := h
      refine q_if_le (tgt := 168) C r3 (by decide) dX7_add_8 (fun b4 => ?_) (fun b4 => ?_)
      · have h := h.1 b4
        exact t168  x8 M h
      · have h := h.2 b4
        refine q_aload_n C 0 rfl rfl dX7_add_11 ?_
        obtain ⟨r5, h⟩ := h
        refine q_get (v := .ref (rh a0 13)) C fX7_42 hk0 (if_neg (Int.not_lt.mpr r5)) dX7_add_12 (fun g6 => ?_)
        refine q_iload C 8 rfl dX7_add_15 ?_
        refine q_iconst C dX7_add_17 ?_
        refine q_isub C dX7_add_18 ?_
        obtain ⟨r7, h⟩ := h
        refine q_iald C hk0 rfl (fun _ q => q) r7 dX7_add_19 (fun g8 => ?_)
        have h := h g8
        refine q_iload_n C 1 rfl rfl dX7_add_20 ?_
        obtain ⟨r9, h⟩ := h
        refine q_icmp_gt (tgt := 50) C g8 r9 (by decide) dX7_add_21 (fun b10 => ?_) (fun b10 => ?_)
        · have h := h.1 b10
          exact t50 (wX7_add_6 kd ln post a0 a1 a2 a3 a4 a5 a6 a7 n) hk6_ x8 M h
        · have h := h.2 b10
          refine q_aload_n C 0 rfl rfl dX7_add_24 ?_
          refine q_get (v := .ref (rh a0 13)) C fX7_42 hk0 (if_neg (Int.not_lt.mpr r5)) dX7_add_25 (fun g11 => ?_)
          refine q_iload C 8 rfl dX7_add_28 ?_
          refine q_iconst C dX7_add_30 ?_
          refine q_isub C dX7_add_31 ?_
          refine q_iald C hk0 rfl (fun _ q => q) r7 dX7_add_32 (fun g12 => ?_)
          refine q_iload_n C 1 rfl rfl dX7_add_33 ?_
          refine q_icmp_ne (tgt := 168) C g8 r9 (by decide) dX7_add_34 (fun b13 => ?_) (fun b13 => ?_)
          · have h := h.1 b13
            exact t168  x8 M h
          · have h := h.2 b13
            refine q_aload_n C 0 rfl rfl dX7_add_37 ?_
            obtain ⟨r14, h⟩ := h
            refine q_get (v := .ref (rh a0 14)) C fX7_45 hk0 (if_neg (Int.not_lt.mpr r14)) dX7_add_38 (fun g15 => ?_)
            refine q_iload C 8 rfl dX7_add_41 ?_
            refine q_iconst C dX7_add_43 ?_
            refine q_isub C dX7_add_44 ?_
            obtain ⟨r16, h⟩ := h
            refine q_iald C hk0 rfl (fun _ q => q) r16 dX7_add_45 (fun g17 => ?_)
            have h := h g17
            refine q_iload_n C 2 rfl rfl dX7_add_46 ?_
            obtain ⟨r18, h⟩ := h
            refine q_icmp_le (tgt := 168) C g17 r18 (by decide) dX7_add_47 (fun b19 => ?_) (fun b19 => ?_)
            · have h := h.1 b19
              exact t168  x8 M h
            · have h := h.2 b19
              exact t50 (wX7_add_6 kd ln post a0 a1 a2 a3 a4 a5 a6 a7 n) hk6_ x8 M h
  unfold wX7_add at h
  refine q_aload_n C 0 rfl rfl dX7_add_0 ?_
  refine q_get (v := .int (gI (M a0 12 (-1)))) C fX7_104 hk0 rfl dX7_add_1 (fun g1 => ?_)
  have h := h g1
  refine q_topi (fun v2 ev2 => ?_)
  have h := h v2 ev2
  have gv2 : rng v2 := by rw [ev2]; exact g1
  refine q_istore (lv' := [(8, .int (gI v2)), (0, .ref (gad a0)), (1, .int (gI a1)), (2, .int (gI a2)), (3, .int (gI a3)), (4, .int (gI a4)), (5, .int (gI a5)), (6, .int (gI a6)), (7, .int (gI a7))]) C (by decide) rfl dX7_add_4 ?_
  refine q_lv (lv' := [(0, .ref (gad a0)), (1, .int (gI a1)), (2, .int (gI a2)), (3, .int (gI a3)), (4, .int (gI a4)), (5, .int (gI a5)), (6, .int (gI a6)), (7, .int (gI a7)), (8, .int (gI v2))]) [1, 2, 3, 4, 5, 6, 7, 8, 0] rfl ?_
  obtain ⟨j6, h⟩ := h
  exact t6  j6 v2 M h
set_option maxHeartbeats 4000000 in
set_option maxRecDepth 100000 in
theorem mX7_pawnMoves (l : Launch) (D : va_G) (cy : Nat → ClassId) (kd : gKd) (ln : gLn) (rh : gRh) (post : gM → Prop) (a0 : Int) (a1 : Int) (a2 : Int) (a3 : Int) (M : gM) (hk0 : kd a0 = 7) (h : wX7_pawnMoves kd ln post a0 a1 a2 a3 M) : gMV l D cy yX7_pawnMoves cX7_pawnMoves 6 1 28 [.ref (gad a0), .int (gI a1), .int (gI a2), .int (gI a3)] kd ln rh M post := by
  refine gMV_of (own := RX7) (by decide) rfl (Nat.le_of_ble_eq_true rfl) ?_
  intro p e s m args below meth c A H0 Q C hret
  have t64 : ∀ (k40 : Int → Int → gM → Prop), (∀ (x4 : Int), ∀ (x5 : Int), ∀ (M : gM), k40 x4 x5 M → gW p l e (gRm 1 28) s m args below meth c D cy A H0 Q 6 kd ln rh 0 0 M 40 [(0, .ref (gad a0)), (1, .int (gI a1)), (2, .int (gI a2)), (3, .int (gI a3)), (4, .int (gI x4)), (5, .int (gI x5))] []) → ∀ (x4 : Int) (x5 : Int) (y0 : Int) (y1 : Int) (y2 : Int) (y3 : Int) (M : gM), wX7_pawnMoves_64 kd ln post a0 a1 a2 a3 k40 x4 x5 y0 y1 y2 y3 M → gW p l e (gRm 1 28) s m args below meth c D cy A H0 Q 6 kd ln rh 0 0 M 64 [(0, .ref (gad a0)), (1, .int (gI a1)), (2, .int (gI a2)), (3, .int (gI a3)), (4, .int (gI x4)), (5, .int (gI x5))] [.int (gI y0), .int (gI y1), .int (gI y2), .int (gI y3), .ref (gad a0)] := by
    intro k40 hk40_ x4 x5 y0 y1 y2 y3 M h
    unfold wX7_pawnMoves_64 at h
    refine q_iload_n C 1 rfl rfl dX7_pawnMoves_64 ?_
    refine q_iload_n C 2 rfl rfl dX7_pawnMoves_65 ?_
    refine q_iload C 4 rfl dX7_pawnMoves_66 ?_
    refine q_callVV (As := [.int (gI y3), .int (gI y2), .int (gI y1), .int (gI y0), .int (gI a1), .int (gI a2), .int (gI x4)]) (st := []) C vX7_110 kX7_add ⟨Nat.le_of_ble_eq_true rfl, Nat.le_of_ble_eq_true rfl⟩ ⟨Nat.le_of_ble_eq_true rfl, Nat.le_of_ble_eq_true rfl⟩ rfl hk0 ⟨_, _, rfl⟩ (by decide) rfl (Nat.le_of_ble_eq_true rfl) (mX7_add l D cy kd ln rh _ a0 y3 y2 y1 y0 a1 a2 x4 M hk0 h) dX7_pawnMoves_68 (fun M38 h => ?_)
    refine q_iinc (lv' := [(5, .int (gI (x5 + 1))), (0, .ref (gad a0)), (1, .int (gI a1)), (2, .int (gI a2)), (3, .int (gI a3)), (4, .int (gI x4))]) C 5 rfl (by decide) rfl dX7_pawnMoves_71 ?_
    refine q_goto (tgt := 40) C (by decide) dX7_pawnMoves_74 ?_
    refine q_lv (lv' := [(0, .ref (gad a0)), (1, .int (gI a1)), (2, .int (gI a2)), (3, .int (gI a3)), (4, .int (gI x4)), (5, .int (gI (x5 + 1)))]) [1, 2, 3, 4, 5, 0] rfl ?_
    exact hk40_ x4 (x5 + 1) M38 h
  have t40 : ∀ (n : Nat) (x4 : Int) (x5 : Int) (M : gM), wX7_pawnMoves_40 kd ln post a0 a1 a2 a3 n x4 x5 M → gW p l e (gRm 1 28) s m args below meth c D cy A H0 Q 6 kd ln rh 0 0 M 40 [(0, .ref (gad a0)), (1, .int (gI a1)), (2, .int (gI a2)), (3, .int (gI a3)), (4, .int (gI x4)), (5, .int (gI x5))] [] := by
    intro n
    induction n with
    | zero => intro x4 x5 M h; exact absurd h (by simp [wX7_pawnMoves_40])
    | succ n ih =>
      intro x4 x5 M h
      have hk40_ := ih
      rw [wX7_pawnMoves_40] at h
      refine q_iload C 5 rfl dX7_pawnMoves_40 ?_
      refine q_iconst C dX7_pawnMoves_42 ?_
      obtain ⟨r35, h⟩ := h
      refine q_icmp_ge (tgt := 77) C r35 (show rng 4 by decide) (by decide) dX7_pawnMoves_43 (fun b36 => ?_) (fun b36 => ?_)
      · have h := h.1 b36
        exact hret M _ _ dX7_pawnMoves_77 h
      · have h := h.2 b36
        refine q_aload_n C 0 rfl rfl dX7_pawnMoves_46 ?_
        refine q_iload_n C 3 rfl rfl dX7_pawnMoves_47 ?_
        refine q_iload C 4 rfl dX7_pawnMoves_48 ?_
        refine q_iload C 5 rfl dX7_pawnMoves_50 ?_
        refine q_iload C 5 rfl dX7_pawnMoves_52 ?_
        refine q_iconst C dX7_pawnMoves_54 ?_
        refine q_icmp_ge (tgt := 63) C r35 (show rng 2 by decide) (by decide) dX7_pawnMoves_55 (fun b37 => ?_) (fun b37 => ?_)
        · have h := h.1 b37
          refine q_iconst C dX7_pawnMoves_63 ?_
          exact t64 (wX7_pawnMoves_40 kd ln post a0 a1 a2 a3 n) hk40_ x4 x5 (-1) x5 x4 a3 M h
        · have h := h.2 b37
          refine q_iload C 5 rfl dX7_pawnMoves_58 ?_
          refine q_goto (tgt := 64) C (by decide) dX7_pawnMoves_60 ?_
          exact t64 (wX7_pawnMoves_40 kd ln post a0 a1 a2 a3 n) hk40_ x4 x5 x5 x5 x4 a3 M h
  unfold wX7_pawnMoves at h
  refine q_iload_n C 3 rfl rfl dX7_pawnMoves_0 ?_
  refine q_aload_n C 0 rfl rfl dX7_pawnMoves_1 ?_
  refine q_get (v := .int (gI (M a0 1 (-1)))) C fX7_7 hk0 rfl dX7_pawnMoves_2 (fun g1 => ?_)
  have h := h g1
  refine q_iadd C dX7_pawnMoves_5 ?_
  refine q_topi (fun v2 ev2 => ?_)
  have h := h v2 ev2
  refine q_istore (lv' := [(4, .int (gI v2)), (0, .ref (gad a0)), (1, .int (gI a1)), (2, .int (gI a2)), (3, .int (gI a3))]) C (by decide) rfl dX7_pawnMoves_6 ?_
  refine q_iload C 0 rfl dX7_pawnMoves_8 ?_
  refine q_iload_n C 2 rfl rfl dX7_pawnMoves_10 ?_
  obtain ⟨r3, h⟩ := h
  obtain ⟨r4, h⟩ := h
  refine q_icmp_eq (tgt := 20) C r3 r4 (by decide) dX7_pawnMoves_11 (fun b5 => ?_) (fun b5 => ?_)
  · have h := h.1 b5
    exact hret M _ _ dX7_pawnMoves_20 h
  · have h := h.2 b5
    refine q_iload C 0 rfl dX7_pawnMoves_14 ?_
    refine q_iload_n C 3 rfl rfl dX7_pawnMoves_16 ?_
    obtain ⟨r6, h⟩ := h
    refine q_icmp_ne (tgt := 21) C r3 r6 (by decide) dX7_pawnMoves_17 (fun b7 => ?_) (fun b7 => ?_)
    · have h := h.1 b7
      refine q_iload C 0 rfl dX7_pawnMoves_21 ?_
      refine q_aload_n C 1 rfl rfl dX7_pawnMoves_23 ?_
      refine q_get (v := .int (gI (M a0 1 (-1)))) C fX7_7 hk0 rfl dX7_pawnMoves_24 (fun g8 => ?_)
      obtain ⟨r9, h⟩ := h
      refine q_idiv C r9 dX7_pawnMoves_27 ?_
      refine q_aload_n C 1 rfl rfl dX7_pawnMoves_28 ?_
      refine q_get (v := .int (gI (M a0 1 (-1)))) C fX7_7 hk0 rfl dX7_pawnMoves_29 (fun g10 => ?_)
      refine q_iconst C dX7_pawnMoves_32 ?_
      refine q_isub C dX7_pawnMoves_33 ?_
      obtain ⟨r11, h⟩ := h
      obtain ⟨r12, h⟩ := h
      refine q_icmp_ne (tgt := 78) C r11 r12 (by decide) dX7_pawnMoves_34 (fun b13 => ?_) (fun b13 => ?_)
      · have h := h.1 b13
        refine q_aload_n C 1 rfl rfl dX7_pawnMoves_78 ?_
        refine q_iload_n C 4 rfl rfl dX7_pawnMoves_79 ?_
        refine q_iload C 0 rfl dX7_pawnMoves_80 ?_
        refine q_iconst C dX7_pawnMoves_82 ?_
        refine q_iconst C dX7_pawnMoves_83 ?_
        refine q_iload_n C 2 rfl rfl dX7_pawnMoves_84 ?_
        refine q_iload_n C 3 rfl rfl dX7_pawnMoves_85 ?_
        refine q_iload C 0 rfl dX7_pawnMoves_86 ?_
        refine q_callVV (As := [.int (gI a3), .int (gI v2), .int (gI (-1)), .int (gI 2), .int (gI a1), .int (gI a2), .int (gI v2)]) (st := []) C vX7_110 kX7_add ⟨Nat.le_of_ble_eq_true rfl, Nat.le_of_ble_eq_true rfl⟩ ⟨Nat.le_of_ble_eq_true rfl, Nat.le_of_ble_eq_true rfl⟩ rfl hk0 ⟨_, _, rfl⟩ (by decide) rfl (Nat.le_of_ble_eq_true rfl) (mX7_add l D cy kd ln rh _ a0 a3 v2 (-1) 2 a1 a2 v2 M hk0 h) dX7_pawnMoves_88 (fun M14 h => ?_)
        refine q_iload C 0 rfl dX7_pawnMoves_91 ?_
        refine q_aload_n C 1 rfl rfl dX7_pawnMoves_93 ?_
        refine q_get (v := .int (gI (M14 a0 1 (-1)))) C fX7_7 hk0 rfl dX7_pawnMoves_94 (fun g17 => ?_)
        have h := h g17
        refine q_iadd C dX7_pawnMoves_97 ?_
        refine q_topi (fun v18 ev18 => ?_)
        have h := h v18 ev18
        refine q_istore (lv' := [(5, .int (gI v18)), (4, .int (gI v2)), (0, .ref (gad a0)), (1, .int (gI a1)), (2, .int (gI a2)), (3, .int (gI a3))]) C (by decide) rfl dX7_pawnMoves_98 ?_
        refine q_iload_n C 5 rfl rfl dX7_pawnMoves_100 ?_
        refine q_aload_n C 2 rfl rfl dX7_pawnMoves_101 ?_
        refine q_get (v := .int (gI (M14 a0 1 (-1)))) C fX7_7 hk0 rfl dX7_pawnMoves_102 (fun g19 => ?_)
        obtain ⟨r20, h⟩ := h
        refine q_idiv C r20 dX7_pawnMoves_105 ?_
        refine q_iconst C dX7_pawnMoves_106 ?_
        obtain ⟨r21, h⟩ := h
        refine q_icmp_ne (tgt := 151) C r21 (show rng 1 by decide) (by decide) dX7_pawnMoves_107 (fun b22 => ?_) (fun b22 => ?_)
        · have h := h.1 b22
          exact hret M14 _ _ dX7_pawnMoves_151 h
        · have h := h.2 b22
          refine q_iload C 0 rfl dX7_pawnMoves_110 ?_
          refine q_aload_n C 2 rfl rfl dX7_pawnMoves_112 ?_
          refine q_get (v := .int (gI (M14 a0 1 (-1)))) C fX7_7 hk0 rfl dX7_pawnMoves_113 (fun g23 => ?_)
          obtain ⟨r24, h⟩ := h
          refine q_idiv C r24 dX7_pawnMoves_116 ?_
          refine q_aload_n C 2 rfl rfl dX7_pawnMoves_117 ?_
          refine q_get (v := .int (gI (M14 a0 1 (-1)))) C fX7_7 hk0 rfl dX7_pawnMoves_118 (fun g25 => ?_)
          refine q_iconst C dX7_pawnMoves_121 ?_
          refine q_isub C dX7_pawnMoves_122 ?_
          obtain ⟨r26, h⟩ := h
          obtain ⟨r27, h⟩ := h
          refine q_icmp_ge (tgt := 151) C r26 r27 (by decide) dX7_pawnMoves_123 (fun b28 => ?_) (fun b28 => ?_)
          · have h := h.1 b28
            exact hret M14 _ _ dX7_pawnMoves_151 h
          · have h := h.2 b28
            refine q_iload C 0 rfl dX7_pawnMoves_126 ?_
            refine q_iload_n C 3 rfl rfl dX7_pawnMoves_128 ?_
            obtain ⟨r29, h⟩ := h
            refine q_icmp_eq (tgt := 151) C r29 r4 (by decide) dX7_pawnMoves_129 (fun b30 => ?_) (fun b30 => ?_)
            · have h := h.1 b30
              exact hret M14 _ _ dX7_pawnMoves_151 h
            · have h := h.2 b30
              refine q_iload C 0 rfl dX7_pawnMoves_132 ?_
              refine q_iload_n C 4 rfl rfl dX7_pawnMoves_134 ?_
              refine q_icmp_eq (tgt := 151) C r29 r6 (by decide) dX7_pawnMoves_135 (fun b31 => ?_) (fun b31 => ?_)
              · have h := h.1 b31
                exact hret M14 _ _ dX7_pawnMoves_151 h
              · have h := h.2 b31
                refine q_aload_n C 2 rfl rfl dX7_pawnMoves_138 ?_
                refine q_iload_n C 5 rfl rfl dX7_pawnMoves_139 ?_
                refine q_iload C 0 rfl dX7_pawnMoves_140 ?_
                refine q_iconst C dX7_pawnMoves_142 ?_
                refine q_iconst C dX7_pawnMoves_143 ?_
                refine q_iload_n C 3 rfl rfl dX7_pawnMoves_144 ?_
                refine q_iload_n C 4 rfl rfl dX7_pawnMoves_145 ?_
                refine q_iload C 0 rfl dX7_pawnMoves_146 ?_
                refine q_callVV (As := [.int (gI a3), .int (gI v18), .int (gI (-1)), .int (gI 2), .int (gI a1), .int (gI a2), .int (gI v18)]) (st := []) C vX7_110 kX7_add ⟨Nat.le_of_ble_eq_true rfl, Nat.le_of_ble_eq_true rfl⟩ ⟨Nat.le_of_ble_eq_true rfl, Nat.le_of_ble_eq_true rfl⟩ rfl hk0 ⟨_, _, rfl⟩ (by decide) rfl (Nat.le_of_ble_eq_true rfl) (mX7_add l D cy kd ln rh _ a0 a3 v18 (-1) 2 a1 a2 v18 M14 hk0 h) dX7_pawnMoves_148 (fun M32 h => ?_)
                exact hret M32 _ _ dX7_pawnMoves_151 h
      · have h := h.2 b13
        refine q_iconst C dX7_pawnMoves_37 ?_
        refine q_istore (lv' := [(5, .int (gI 0)), (4, .int (gI v2)), (0, .ref (gad a0)), (1, .int (gI a1)), (2, .int (gI a2)), (3, .int (gI a3))]) C (by decide) rfl dX7_pawnMoves_38 ?_
        refine q_lv (lv' := [(0, .ref (gad a0)), (1, .int (gI a1)), (2, .int (gI a2)), (3, .int (gI a3)), (4, .int (gI v2)), (5, .int (gI 0))]) [2, 3, 4, 5, 1, 0] rfl ?_
        obtain ⟨j40, h⟩ := h
        exact t40  j40 v2 0 M h
    · have h := h.2 b7
      exact hret M _ _ dX7_pawnMoves_20 h
