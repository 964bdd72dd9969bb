set_option maxHeartbeats 4000000 in
set_option maxRecDepth 100000 in
theorem mX5_numberOf (l : Launch) (D : va_G) (cy : Nat → ClassId) (kd : gKd) (ln : gLn) (rh : gRh) (post : Int → gM → Prop) (a0 : Int) (a1 : Int) (a2 : Int) (a3 : Int) (a4 : Int) (M : gM) (hk0 : kd a0 = 5) (h : wX5_numberOf kd ln post a0 a1 a2 a3 a4 M) : gMI l D cy yX5_numberOf cX5_numberOf 8 .int 2 49 [.ref (gad a0), .int (gI a1), .int (gI a2), .int (gI a3), .int (gI a4)] kd ln rh M post := by
  refine gMI_of (own := RX5) (by decide) rfl (Nat.le_of_ble_eq_true rfl) ?_
  intro p e s m args below meth c A H0 Q C hret
  have t71 : ∀ (k45 : Int → Int → Int → gM → Prop), (∀ (x5 : Int), ∀ (x6 : Int), ∀ (x7 : Int), ∀ (M : gM), k45 x5 x6 x7 M → gW p l e (gRm 2 49) s m args below meth c D cy A H0 Q 8 kd ln rh 0 0 M 45 [(0, .ref (gad a0)), (5, .int (gI x5)), (6, .int (gI x6)), (7, .int (gI x7))] []) → ∀ (x5 : Int) (x7 : Int) (y0 : Int) (y1 : Int) (M : gM), wX5_numberOf_71 kd ln post a0 a1 a2 a3 a4 k45 x5 x7 y0 y1 M → gW p l e (gRm 2 49) s m args below meth c D cy A H0 Q 8 kd ln rh 0 0 M 71 [(0, .ref (gad a0)), (5, .int (gI x5)), (7, .int (gI x7))] [.int (gI y0), .int (gI y1)] := by
    intro k45 hk45_ x5 x7 y0 y1 M h
    unfold wX5_numberOf_71 at h
    refine q_iadd C dX5_numberOf_71 ?_
    refine q_topi (fun v28 ev28 => ?_)
    have h := h v28 ev28
    refine q_istore (lv' := [(6, .int (gI v28)), (0, .ref (gad a0)), (5, .int (gI x5)), (7, .int (gI x7))]) C (by decide) rfl dX5_numberOf_72 ?_
    refine q_iinc (lv' := [(7, .int (gI (x7 + 1))), (6, .int (gI v28)), (0, .ref (gad a0)), (5, .int (gI x5))]) C 3 rfl (by decide) rfl dX5_numberOf_74 ?_
    refine q_goto (tgt := 45) C (by decide) dX5_numberOf_77 ?_
    refine q_lv (lv' := [(0, .ref (gad a0)), (5, .int (gI x5)), (6, .int (gI v28)), (7, .int (gI (x7 + 1)))]) [2, 3, 1, 0] rfl ?_
    exact hk45_ x5 v28 (x7 + 1) M h
  have t45 : ∀ (n : Nat) (x5 : Int) (x6 : Int) (x7 : Int) (M : gM), wX5_numberOf_45 kd ln post a0 a1 a2 a3 a4 n x5 x6 x7 M → gW p l e (gRm 2 49) s m args below meth c D cy A H0 Q 8 kd ln rh 0 0 M 45 [(0, .ref (gad a0)), (5, .int (gI x5)), (6, .int (gI x6)), (7, .int (gI x7))] [] := by
    intro n
    induction n with
    | zero => intro x5 x6 x7 M h; exact absurd h (by simp [wX5_numberOf_45])
    | succ n ih =>
      intro x5 x6 x7 M h
      have hk45_ := ih
      rw [wX5_numberOf_45] at h
      refine q_iload C 3 rfl dX5_numberOf_45 ?_
      refine q_iload C 1 rfl dX5_numberOf_47 ?_
      obtain ⟨r19, h⟩ := h
      obtain ⟨r20, h⟩ := h
      refine q_icmp_ge (tgt := 80) C r19 r20 (by decide) dX5_numberOf_49 (fun b21 => ?_) (fun b21 => ?_)
      · have h := h.1 b21
        refine q_iload C 2 rfl dX5_numberOf_80 ?_
        obtain ⟨r22, h⟩ := h
        exact hret x6 M _ _ dX5_numberOf_82 r22 h
      · have h := h.2 b21
        refine q_iload C 2 rfl dX5_numberOf_52 ?_
        refine q_aload_n C 0 rfl rfl dX5_numberOf_54 ?_
        obtain ⟨r23, h⟩ := h
        refine q_get (v := .ref (rh a0 1)) C fX5_44 hk0 (if_neg (Int.not_lt.mpr r23)) dX5_numberOf_55 (fun g24 => ?_)
        refine q_iload C 3 rfl dX5_numberOf_58 ?_
        obtain ⟨r25, h⟩ := h
        refine q_bald C hk0 rfl (fun _ q => q) r25 dX5_numberOf_60 (fun g26 => ?_)
        have h := h g26
        refine q_bipush C (by decide) dX5_numberOf_61 ?_
        refine q_icmp_eq (tgt := 70) C g26 (show rng (-2) by decide) (by decide) dX5_numberOf_63 (fun b27 => ?_) (fun b27 => ?_)
        · have h := h.1 b27
          refine q_iconst C dX5_numberOf_70 ?_
          refine q_lv (lv' := [(0, .ref (gad a0)), (5, .int (gI x5)), (7, .int (gI x7))]) [0, 1, 3] rfl ?_
          exact t71 (wX5_numberOf_45 kd ln post a0 a1 a2 a3 a4 n) hk45_ x5 x7 0 x6 M h
        · have h := h.2 b27
          refine q_iconst C dX5_numberOf_66 ?_
          refine q_goto (tgt := 71) C (by decide) dX5_numberOf_67 ?_
          refine q_lv (lv' := [(0, .ref (gad a0)), (5, .int (gI x5)), (7, .int (gI x7))]) [0, 1, 3] rfl ?_
          exact t71 (wX5_numberOf_45 kd ln post a0 a1 a2 a3 a4 n) hk45_ x5 x7 1 x6 M h
  unfold wX5_numberOf at h
  refine q_aload_n C 0 rfl rfl dX5_numberOf_0 ?_
  refine q_get (v := gR (M a0 2 (-1))) C fX5_35 hk0 rfl dX5_numberOf_1 (fun g1 => ?_)
  obtain ⟨r2, h⟩ := h
  refine q_nn r2 (by decide) ?_
  refine q_iload_n C 1 rfl rfl dX5_numberOf_4 ?_
  refine q_iload_n C 2 rfl rfl dX5_numberOf_5 ?_
  refine q_iload_n C 3 rfl rfl dX5_numberOf_6 ?_
  refine q_iload C 4 rfl dX5_numberOf_7 ?_
  refine q_callVI (As := [.int (gI a1), .int (gI a2), .int (gI a3), .int (gI a4)]) (st := []) C vX5_76 kX2_cellOf ⟨by decide, by decide⟩ ⟨by decide, by decide⟩ rfl r2 ⟨_, _, rfl⟩ (by decide) rfl (Nat.le_of_ble_eq_true rfl) (mX2_cellOf l D cy kd ln rh _ (M a0 2 (-1)) a1 a2 a3 a4 M r2 h) dX5_numberOf_9 (fun c4 M3 g5 h => ?_)
  have h := h g5
  refine q_istore (lv' := [(5, .int (gI c4)), (0, .ref (gad a0)), (1, .int (gI a1)), (2, .int (gI a2)), (3, .int (gI a3)), (4, .int (gI a4))]) C (by decide) rfl dX5_numberOf_12 ?_
  refine q_iload C 0 rfl dX5_numberOf_14 ?_
  refine q_iconst C dX5_numberOf_16 ?_
  refine q_icmp_ne (tgt := 22) C g5 (show rng (-1) by decide) (by decide) dX5_numberOf_17 (fun b6 => ?_) (fun b6 => ?_)
  · have h := h.1 b6
    refine q_aload_n C 1 rfl rfl dX5_numberOf_22 ?_
    obtain ⟨r7, h⟩ := h
    refine q_get (v := .ref (rh a0 9)) C fX5_54 hk0 (if_neg (Int.not_lt.mpr r7)) dX5_numberOf_23 (fun g8 => ?_)
    refine q_iload C 0 rfl dX5_numberOf_26 ?_
    refine q_callSI (As := [.int (gI c4)]) (st := [.ref (rh a0 9)]) C vX5_98 kX5_pairOf ⟨by decide, by decide⟩ ⟨by decide, by decide⟩ rfl rfl (Nat.le_of_ble_eq_true rfl) (mX5_pairOf l D cy kd ln rh _ c4 M3  h) dX5_numberOf_28 (fun c10 M9 g11 h => ?_)
    have h := h g11
    obtain ⟨r12, h⟩ := h
    refine q_iald C hk0 rfl (fun _ q => q) r12 dX5_numberOf_31 (fun g13 => ?_)
    have h := h g13
    refine q_topi (fun v14 ev14 => ?_)
    have h := h v14 ev14
    have gv14 : rng v14 := by rw [ev14]; exact g13
    refine q_istore (lv' := [(6, .int (gI v14)), (5, .int (gI c4)), (0, .ref (gad a0)), (1, .int (gI a1)), (2, .int (gI a2)), (3, .int (gI a3)), (4, .int (gI a4))]) C (by decide) rfl dX5_numberOf_32 ?_
    refine q_iload C 1 rfl dX5_numberOf_34 ?_
    refine q_callSI (As := [.int (gI c4)]) (st := []) C vX5_98 kX5_pairOf ⟨by decide, by decide⟩ ⟨by decide, by decide⟩ rfl rfl (Nat.le_of_ble_eq_true rfl) (mX5_pairOf l D cy kd ln rh _ c4 M9  h) dX5_numberOf_36 (fun c16 M15 g17 h => ?_)
    have h := h g17
    refine q_sipush C (by decide) dX5_numberOf_39 ?_
    refine q_imul C dX5_numberOf_42 ?_
    refine q_topi (fun v18 ev18 => ?_)
    have h := h v18 ev18
    refine q_istore (lv' := [(7, .int (gI v18)), (6, .int (gI v14)), (5, .int (gI c4)), (0, .ref (gad a0)), (1, .int (gI a1)), (2, .int (gI a2)), (3, .int (gI a3)), (4, .int (gI a4))]) C (by decide) rfl dX5_numberOf_43 ?_
    refine q_lv (lv' := [(0, .ref (gad a0)), (5, .int (gI c4)), (6, .int (gI v14)), (7, .int (gI v18))]) [3, 2, 1, 0] rfl ?_
    obtain ⟨j45, h⟩ := h
    exact t45  j45 c4 v14 v18 M15 h
  · have h := h.2 b6
    refine q_iconst C dX5_numberOf_20 ?_
    exact hret (-1) M3 _ _ dX5_numberOf_21 (show rng (-1) by decide) h
set_option maxHeartbeats 4000000 in
set_option maxRecDepth 100000 in
theorem mX5_sumUpCell (l : Launch) (D : va_G) (cy : Nat → ClassId) (kd : gKd) (ln : gLn) (rh : gRh) (post : gM → Prop) (a0 : Int) (a1 : Int) (a2 : Int) (M : gM) (hk0 : kd a0 = 5) (h : wX5_sumUpCell kd ln post a0 a1 a2 M) : gMV l D cy yX5_sumUpCell cX5_sumUpCell 5 1 20 [.ref (gad a0), .int (gI a1), .int (gI a2)] kd ln rh M post := by
  refine gMV_of (own := RX5) (by decide) rfl (Nat.le_of_ble_eq_true rfl) ?_
  intro p e s m args below meth c A H0 Q C hret
  have t64 : ∀ (y0 : Int) (y1 : Int) (M : gM), wX5_sumUpCell_64 kd ln post a0 a1 a2 y0 y1 M → gW p l e (gRm 1 20) s m args below meth c D cy A H0 Q 5 kd ln rh 0 0 M 64 [] [.int (gI y0), .int (gI y1), .ref (gad a0)] := by
    intro  y0 y1 M h
    unfold wX5_sumUpCell_64 at h
    refine q_iadd C dX5_sumUpCell_64 ?_
    obtain ⟨r41, h⟩ := h
    refine q_put (x := (y1 + y0)) (ty := .int) C fX5_95 hk0 (fun _ _ _ q => by cases q; rfl) (congrArg (fun z => Value.int (gI z)) gu_s) rfl rfl r41 dX5_sumUpCell_65 ?_
    exact hret (gu M a0 7 (-1) (y1 + y0)) _ _ dX5_sumUpCell_68 h
  have t63 : ∀ (y0 : Int) (M : gM), wX5_sumUpCell_63 kd ln post a0 a1 a2 y0 M → gW p l e (gRm 1 20) s m args below meth c D cy A H0 Q 5 kd ln rh 0 0 M 63 [] [.int (gI y0), .ref (gad a0)] := by
    intro  y0 M h
    unfold wX5_sumUpCell_63 at h
    refine q_iconst C dX5_sumUpCell_63 ?_
    exact t64  0 y0 M h
  unfold wX5_sumUpCell at h
  refine q_iload_n C 1 rfl rfl dX5_sumUpCell_0 ?_
  refine q_callSI (As := [.int (gI a1)]) (st := []) C vX5_92 kX5_turnOf ⟨by decide, by decide⟩ ⟨by decide, by decide⟩ rfl rfl (Nat.le_of_ble_eq_true rfl) (mX5_turnOf l D cy kd ln rh _ a1 M  h) dX5_sumUpCell_1 (fun c2 M1 g3 h => ?_)
  have h := h g3
  refine q_istore_n (lv' := [(3, .int (gI c2)), (0, .ref (gad a0)), (1, .int (gI a1)), (2, .int (gI a2))]) C rfl (by decide) rfl dX5_sumUpCell_4 ?_
  refine q_aload_n C 1 rfl rfl dX5_sumUpCell_5 ?_
  obtain ⟨r4, h⟩ := h
  refine q_get (v := .ref (rh a0 1)) C fX5_44 hk0 (if_neg (Int.not_lt.mpr r4)) dX5_sumUpCell_6 (fun g5 => ?_)
  refine q_iload_n C 2 rfl rfl dX5_sumUpCell_9 ?_
  obtain ⟨r6, h⟩ := h
  refine q_bald C hk0 rfl (fun _ q => q) r6 dX5_sumUpCell_10 (fun g7 => ?_)
  have h := h g7
  refine q_topi (fun v8 ev8 => ?_)
  have h := h v8 ev8
  have gv8 : rng v8 := by rw [ev8]; exact g7
  refine q_istore (lv' := [(4, .int (gI v8)), (3, .int (gI c2)), (0, .ref (gad a0)), (1, .int (gI a1)), (2, .int (gI a2))]) C (by decide) rfl dX5_sumUpCell_11 ?_
  refine q_aload_n C 2 rfl rfl dX5_sumUpCell_13 ?_
  obtain ⟨r9, h⟩ := h
  refine q_get (v := .ref (rh a0 4)) C fX5_15 hk0 (if_neg (Int.not_lt.mpr r9)) dX5_sumUpCell_14 (fun g10 => ?_)
  refine q_iload_n C 1 rfl rfl dX5_sumUpCell_17 ?_
  refine q_dup2 C rfl rfl dX5_sumUpCell_18 ?_
  obtain ⟨r11, h⟩ := h
  refine q_iald C hk0 rfl (fun _ q => q) r11 dX5_sumUpCell_19 (fun g12 => ?_)
  have h := h g12
  refine q_iconst C dX5_sumUpCell_20 ?_
  refine q_iadd C dX5_sumUpCell_21 ?_
  obtain ⟨r13, h⟩ := h
  refine q_iast C hk0 rfl r13 r11 dX5_sumUpCell_22 ?_
  refine q_iload C 0 rfl dX5_sumUpCell_23 ?_
  refine q_iconst C dX5_sumUpCell_25 ?_
  refine q_icmp_ne (tgt := 69) C gv8 (show rng (-1) by decide) (by decide) dX5_sumUpCell_26 (fun b14 => ?_) (fun b14 => ?_)
  · have h := h.1 b14
    refine q_aload_n C 2 rfl rfl dX5_sumUpCell_69 ?_
    obtain ⟨r15, h⟩ := h
    refine q_get (v := .ref (rh a0 10)) C fX5_24 hk0 (if_neg (Int.not_lt.mpr r15)) dX5_sumUpCell_70 (fun g16 => ?_)
    refine q_iconst C dX5_sumUpCell_73 ?_
    refine q_iload C 0 rfl dX5_sumUpCell_74 ?_
    refine q_imul C dX5_sumUpCell_76 ?_
    refine q_iload_n C 1 rfl rfl dX5_sumUpCell_77 ?_
    refine q_iadd C dX5_sumUpCell_78 ?_
    refine q_dup2 C rfl rfl dX5_sumUpCell_79 ?_
    obtain ⟨r17, h⟩ := h
    refine q_iald C hk0 rfl (fun _ q => q) r17 dX5_sumUpCell_80 (fun g18 => ?_)
    have h := h g18
    refine q_iconst C dX5_sumUpCell_81 ?_
    refine q_iadd C dX5_sumUpCell_82 ?_
    obtain ⟨r19, h⟩ := h
    refine q_iast C hk0 rfl r19 r17 dX5_sumUpCell_83 ?_
    refine q_iload C 0 rfl dX5_sumUpCell_84 ?_
    refine q_aload_n C 2 rfl rfl dX5_sumUpCell_86 ?_
    obtain ⟨r20, h⟩ := h
    refine q_get (v := .ref (rh a0 5)) C fX5_18 hk0 (if_neg (Int.not_lt.mpr r20)) dX5_sumUpCell_87 (fun g21 => ?_)
    refine q_iload_n C 1 rfl rfl dX5_sumUpCell_90 ?_
    obtain ⟨r22, h⟩ := h
    refine q_iald C hk0 rfl (fun _ q => q) r22 dX5_sumUpCell_91 (fun g23 => ?_)
    have h := h g23
    refine q_icmp_le (tgt := 110) C gv8 g23 (by decide) dX5_sumUpCell_92 (fun b24 => ?_) (fun b24 => ?_)
    · have h := h.1 b24
      exact hret (gu (gu M1 a0 4 c2 ((M1 a0 4 c2) + 1)) a0 10 ((2 * v8) + c2) (((gu M1 a0 4 c2 ((M1 a0 4 c2) + 1)) a0 10 ((2 * v8) + c2)) + 1)) _ _ dX5_sumUpCell_110 h
    · have h := h.2 b24
      refine q_aload_n C 2 rfl rfl dX5_sumUpCell_95 ?_
      refine q_get (v := .ref (rh a0 5)) C fX5_18 hk0 (if_neg (Int.not_lt.mpr r20)) dX5_sumUpCell_96 (fun g25 => ?_)
      refine q_iload_n C 1 rfl rfl dX5_sumUpCell_99 ?_
      refine q_iload C 0 rfl dX5_sumUpCell_100 ?_
      refine q_iast C hk0 rfl gv8 r22 dX5_sumUpCell_102 ?_
      refine q_aload_n C 2 rfl rfl dX5_sumUpCell_103 ?_
      obtain ⟨r26, h⟩ := h
      refine q_get (v := .ref (rh a0 6)) C fX5_21 hk0 (if_neg (Int.not_lt.mpr r26)) dX5_sumUpCell_104 (fun g27 => ?_)
      refine q_iload_n C 1 rfl rfl dX5_sumUpCell_107 ?_
      refine q_iload_n C 4 rfl rfl dX5_sumUpCell_108 ?_
      obtain ⟨r28, h⟩ := h
      obtain ⟨r29, h⟩ := h
      refine q_iast C hk0 rfl r29 r28 dX5_sumUpCell_109 ?_
      exact hret (gu (gu (gu (gu M1 a0 4 c2 ((M1 a0 4 c2) + 1)) a0 10 ((2 * v8) + c2) (((gu M1 a0 4 c2 ((M1 a0 4 c2) + 1)) a0 10 ((2 * v8) + c2)) + 1)) a0 5 c2 v8) a0 6 c2 a2) _ _ dX5_sumUpCell_110 h
  · have h := h.2 b14
    refine q_aload_n C 2 rfl rfl dX5_sumUpCell_29 ?_
    obtain ⟨r30, h⟩ := h
    refine q_get (v := .ref (rh a0 3)) C fX5_9 hk0 (if_neg (Int.not_lt.mpr r30)) dX5_sumUpCell_30 (fun g31 => ?_)
    refine q_iload_n C 1 rfl rfl dX5_sumUpCell_33 ?_
    refine q_dup2 C rfl rfl dX5_sumUpCell_34 ?_
    obtain ⟨r32, h⟩ := h
    refine q_iald C hk0 rfl (fun _ q => q) r32 dX5_sumUpCell_35 (fun g33 => ?_)
    have h := h g33
    refine q_iconst C dX5_sumUpCell_36 ?_
    refine q_iadd C dX5_sumUpCell_37 ?_
    obtain ⟨r34, h⟩ := h
    refine q_iast C hk0 rfl r34 r32 dX5_sumUpCell_38 ?_
    refine q_aload_n C 2 rfl rfl dX5_sumUpCell_39 ?_
    refine q_dup C rfl dX5_sumUpCell_40 ?_
    refine q_get (v := .int (gI ((gu (gu M1 a0 4 c2 ((M1 a0 4 c2) + 1)) a0 3 c2 (((gu M1 a0 4 c2 ((M1 a0 4 c2) + 1)) a0 3 c2) + 1)) a0 7 (-1)))) C fX5_95 hk0 rfl dX5_sumUpCell_41 (fun g35 => ?_)
    have h := h g35
    refine q_iload_n C 1 rfl rfl dX5_sumUpCell_44 ?_
    refine q_if_ne (tgt := 63) C g3 (by decide) dX5_sumUpCell_45 (fun b36 => ?_) (fun b36 => ?_)
    · have h := h.1 b36
      refine q_lv (lv' := []) [] rfl ?_
      exact t63  ((gu (gu M1 a0 4 c2 ((M1 a0 4 c2) + 1)) a0 3 c2 (((gu M1 a0 4 c2 ((M1 a0 4 c2) + 1)) a0 3 c2) + 1)) a0 7 (-1)) (gu (gu M1 a0 4 c2 ((M1 a0 4 c2) + 1)) a0 3 c2 (((gu M1 a0 4 c2 ((M1 a0 4 c2) + 1)) a0 3 c2) + 1)) h
    · have h := h.2 b36
      refine q_aload_n C 2 rfl rfl dX5_sumUpCell_48 ?_
      refine q_get (v := .ref (rh a0 1)) C fX5_44 hk0 (if_neg (Int.not_lt.mpr r4)) dX5_sumUpCell_49 (fun g37 => ?_)
      refine q_iload_n C 3 rfl rfl dX5_sumUpCell_52 ?_
      refine q_iconst C dX5_sumUpCell_53 ?_
      refine q_iadd C dX5_sumUpCell_54 ?_
      obtain ⟨r38, h⟩ := h
      refine q_bald C hk0 rfl (fun _ q => q) r38 dX5_sumUpCell_55 (fun g39 => ?_)
      have h := h g39
      refine q_if_lt (tgt := 63) C g39 (by decide) dX5_sumUpCell_56 (fun b40 => ?_) (fun b40 => ?_)
      · have h := h.1 b40
        refine q_lv (lv' := []) [] rfl ?_
        exact t63  ((gu (gu M1 a0 4 c2 ((M1 a0 4 c2) + 1)) a0 3 c2 (((gu M1 a0 4 c2 ((M1 a0 4 c2) + 1)) a0 3 c2) + 1)) a0 7 (-1)) (gu (gu M1 a0 4 c2 ((M1 a0 4 c2) + 1)) a0 3 c2 (((gu M1 a0 4 c2 ((M1 a0 4 c2) + 1)) a0 3 c2) + 1)) h
      · have h := h.2 b40
        refine q_iconst C dX5_sumUpCell_59 ?_
        refine q_goto (tgt := 64) C (by decide) dX5_sumUpCell_60 ?_
        refine q_lv (lv' := []) [] rfl ?_
        exact t64  1 ((gu (gu M1 a0 4 c2 ((M1 a0 4 c2) + 1)) a0 3 c2 (((gu M1 a0 4 c2 ((M1 a0 4 c2) + 1)) a0 3 c2) + 1)) a0 7 (-1)) (gu (gu M1 a0 4 c2 ((M1 a0 4 c2) + 1)) a0 3 c2 (((gu M1 a0 4 c2 ((M1 a0 4 c2) + 1)) a0 3 c2) + 1)) h
set_option maxHeartbeats 4000000 in
set_option maxRecDepth 100000 in
theorem mX5_sumUp (l : Launch) (D : va_G) (cy : Nat → ClassId) (kd : gKd) (ln : gLn) (rh : gRh) (post : gM → Prop) (a0 : Int) (M : gM) (hk0 : kd a0 = 5) (h : wX5_sumUp kd ln post a0 M) : gMV l D cy yX5_sumUp cX5_sumUp 3 2 44 [.ref (gad a0)] kd ln rh M post := by
  refine gMV_of (own := RX5) (by decide) rfl (Nat.le_of_ble_eq_true rfl) ?_
  intro p e s m args below meth c A H0 Q C hret
  have t33 : ∀ (k4 : Int → Int → gM → Prop), (∀ (x1 : Int), ∀ (x2 : Int), ∀ (M : gM), k4 x1 x2 M → gW p l e (gRm 2 44) s m args below meth c D cy A H0 Q 3 kd ln rh 0 0 M 4 [(0, .ref (gad a0)), (1, .int (gI x1)), (2, .int (gI x2))] []) → ∀ (x1 : Int) (x2 : Int) (M : gM), wX5_sumUp_33 kd ln post a0 k4 x1 x2 M → gW p l e (gRm 2 44) s m args below meth c D cy A H0 Q 3 kd ln rh 0 0 M 33 [(0, .ref (gad a0)), (1, .int (gI x1)), (2, .int (gI x2))] [] := by
    intro k4 hk4_ x1 x2 M h
    unfold wX5_sumUp_33 at h
    refine q_iinc (lv' := [(2, .int (gI (x2 + 1))), (0, .ref (gad a0)), (1, .int (gI x1))]) C 2 rfl (by decide) rfl dX5_sumUp_33 ?_
    refine q_goto (tgt := 4) C (by decide) dX5_sumUp_36 ?_
    refine q_lv (lv' := [(0, .ref (gad a0)), (1, .int (gI x1)), (2, .int (gI (x2 + 1)))]) [1, 2, 0] rfl ?_
    exact hk4_ x1 (x2 + 1) M h
  have t4 : ∀ (n : Nat) (x1 : Int) (x2 : Int) (M : gM), wX5_sumUp_4 kd ln post a0 n x1 x2 M → gW p l e (gRm 2 44) s m args below meth c D cy A H0 Q 3 kd ln rh 0 0 M 4 [(0, .ref (gad a0)), (1, .int (gI x1)), (2, .int (gI x2))] [] := by
    intro n
    induction n with
    | zero => intro x1 x2 M h; exact absurd h (by simp [wX5_sumUp_4])
    | succ n ih =>
      intro x1 x2 M h
      have hk4_ := ih
      rw [wX5_sumUp_4] at h
      refine q_iload_n C 2 rfl rfl dX5_sumUp_4 ?_
      refine q_aload_n C 0 rfl rfl dX5_sumUp_5 ?_
      obtain ⟨r1, h⟩ := h
      refine q_get (v := .ref (rh a0 1)) C fX5_44 hk0 (if_neg (Int.not_lt.mpr r1)) dX5_sumUp_6 (fun g2 => ?_)
      refine q_alen (t0 := 1) C hk0 rfl r1 dX5_sumUp_9 (fun g3 => ?_)
      have h := h g3
      have g4 : rng (ln a0 1) := ⟨by omega, by omega⟩
      obtain ⟨r5, h⟩ := h
      refine q_icmp_ge (tgt := 39) C r5 g4 (by decide) dX5_sumUp_10 (fun b6 => ?_) (fun b6 => ?_)
      · have h := h.1 b6
        exact hret M _ _ dX5_sumUp_39 h
      · have h := h.2 b6
        refine q_aload_n C 0 rfl rfl dX5_sumUp_13 ?_
        refine q_get (v := .ref (rh a0 1)) C fX5_44 hk0 (if_neg (Int.not_lt.mpr r1)) dX5_sumUp_14 (fun g7 => ?_)
        refine q_iload_n C 2 rfl rfl dX5_sumUp_17 ?_
        obtain ⟨r8, h⟩ := h
        refine q_bald C hk0 rfl (fun _ q => q) r8 dX5_sumUp_18 (fun g9 => ?_)
        have h := h g9
        refine q_bipush C (by decide) dX5_sumUp_19 ?_
        refine q_icmp_eq (tgt := 33) C g9 (show rng (-2) by decide) (by decide) dX5_sumUp_21 (fun b10 => ?_) (fun b10 => ?_)
        · have h := h.1 b10
          exact t33 (wX5_sumUp_4 kd ln post a0 n) hk4_ x1 x2 M h
        · have h := h.2 b10
          refine q_aload_n C 0 rfl rfl dX5_sumUp_24 ?_
          refine q_iload_n C 2 rfl rfl dX5_sumUp_25 ?_
          refine q_iload_n C 1 rfl rfl dX5_sumUp_26 ?_
          refine q_callVV (As := [.int (gI x2), .int (gI x1)]) (st := []) C vX5_88 kX5_sumUpCell ⟨by decide, by decide⟩ ⟨by decide, by decide⟩ rfl hk0 ⟨_, _, rfl⟩ (by decide) rfl (Nat.le_of_ble_eq_true rfl) (mX5_sumUpCell l D cy kd ln rh _ a0 x2 x1 M hk0 h) dX5_sumUp_27 (fun M11 h => ?_)
          refine q_iinc (lv' := [(1, .int (gI (x1 + 1))), (0, .ref (gad a0)), (2, .int (gI x2))]) C 1 rfl (by decide) rfl dX5_sumUp_30 ?_
          refine q_lv (lv' := [(0, .ref (gad a0)), (1, .int (gI (x1 + 1))), (2, .int (gI x2))]) [1, 0, 2] rfl ?_
          exact t33 (wX5_sumUp_4 kd ln post a0 n) hk4_ (x1 + 1) x2 M11 h
  unfold wX5_sumUp at h
  refine q_iconst C dX5_sumUp_0 ?_
  refine q_istore_n (lv' := [(1, .int (gI 0)), (0, .ref (gad a0))]) C rfl (by decide) rfl dX5_sumUp_1 ?_
  refine q_iconst C dX5_sumUp_2 ?_
  refine q_istore_n (lv' := [(2, .int (gI 0)), (1, .int (gI 0)), (0, .ref (gad a0))]) C rfl (by decide) rfl dX5_sumUp_3 ?_
  refine q_lv (lv' := [(0, .ref (gad a0)), (1, .int (gI 0)), (2, .int (gI 0))]) [2, 1, 0] rfl ?_
  obtain ⟨j4, h⟩ := h
  exact t4  j4 0 0 M h
set_option maxHeartbeats 4000000 in
set_option maxRecDepth 100000 in
theorem mX5_tell (l : Launch) (D : va_G) (cy : Nat → ClassId) (kd : gKd) (ln : gLn) (rh : gRh) (post : Int → gM → Prop) (a0 : Int) (a1 : Int) (a2 : Int) (M : gM) (hk0 : kd a0 = 5) (h : wX5_tell kd ln post a0 a1 a2 M) : gMI l D cy yX5_tell cX5_tell 3 .int 1 20 [.ref (gad a0), .int (gI a1), .int (gI a2)] kd ln rh M post := by
  refine gMI_of (own := RX5) (by decide) rfl (Nat.le_of_ble_eq_true rfl) ?_
  intro p e s m args below meth c A H0 Q C hret
  unfold wX5_tell at h
  refine q_iload_n C 2 rfl rfl dX5_tell_0 ?_
  obtain ⟨r1, h⟩ := h
  rcases (show (a2 < 0 ∨ 4 < a2) ∨ a2 = 0 ∨ a2 = 1 ∨ a2 = 2 ∨ a2 = 3 ∨ a2 = 4 by omega) with b2 | b2 | b2 | b2 | b2 | b2
  · have h := h.1 b2
    refine q_tswOut (tgt := 79) C r1 b2 (by decide) dX5_tell_1 ?_
    refine q_iconst C dX5_tell_79 ?_
    exact hret (-1) M _ _ dX5_tell_80 (show rng (-1) by decide) h
  · have h := h.2.1 b2
    refine q_tswIn (tgt := 36) (off := 35) C r1 (by omega) (by omega) (by rw [b2]; rfl) (by decide) dX5_tell_1 ?_
    refine q_aload_n C 0 rfl rfl dX5_tell_36 ?_
    refine q_get (v := gR (M a0 2 (-1))) C fX5_35 hk0 rfl dX5_tell_37 (fun g3 => ?_)
    obtain ⟨r4, h⟩ := h
    refine q_nn r4 (by decide) ?_
    obtain ⟨r5, h⟩ := h
    refine q_get (v := .ref (rh (M a0 2 (-1)) 1)) C fX5_61 r4 (if_neg (Int.not_lt.mpr r5)) dX5_tell_40 (fun g6 => ?_)
    refine q_iload_n C 1 rfl rfl dX5_tell_43 ?_
    refine q_callSI (As := [.int (gI a1)]) (st := [.ref (rh (M a0 2 (-1)) 1)]) C vX5_98 kX5_pairOf ⟨by decide, by decide⟩ ⟨by decide, by decide⟩ rfl rfl (Nat.le_of_ble_eq_true rfl) (mX5_pairOf l D cy kd ln rh _ a1 M  h) dX5_tell_44 (fun c8 M7 g9 h => ?_)
    have h := h g9
    obtain ⟨r10, h⟩ := h
    refine q_iald C r4 rfl (fun _ q => q) r10 dX5_tell_47 (fun g11 => ?_)
    have h := h g11
    exact hret (M7 (M a0 2 (-1)) 1 c8) M7 _ _ dX5_tell_48 g11 h
  · have h := h.2.2.1 b2
    refine q_tswIn (tgt := 49) (off := 48) C r1 (by omega) (by omega) (by rw [b2]; rfl) (by decide) dX5_tell_1 ?_
    refine q_aload_n C 0 rfl rfl dX5_tell_49 ?_
    refine q_get (v := gR (M a0 2 (-1))) C fX5_35 hk0 rfl dX5_tell_50 (fun g12 => ?_)
    obtain ⟨r13, h⟩ := h
    refine q_nn r13 (by decide) ?_
    obtain ⟨r14, h⟩ := h
    refine q_get (v := .ref (rh (M a0 2 (-1)) 2)) C fX5_64 r13 (if_neg (Int.not_lt.mpr r14)) dX5_tell_53 (fun g15 => ?_)
    refine q_iload_n C 1 rfl rfl dX5_tell_56 ?_
    refine q_callSI (As := [.int (gI a1)]) (st := [.ref (rh (M a0 2 (-1)) 2)]) C vX5_98 kX5_pairOf ⟨by decide, by decide⟩ ⟨by decide, by decide⟩ rfl rfl (Nat.le_of_ble_eq_true rfl) (mX5_pairOf l D cy kd ln rh _ a1 M  h) dX5_tell_57 (fun c17 M16 g18 h => ?_)
    have h := h g18
    obtain ⟨r19, h⟩ := h
    refine q_iald C r13 rfl (fun _ q => q) r19 dX5_tell_60 (fun g20 => ?_)
    have h := h g20
    exact hret (M16 (M a0 2 (-1)) 2 c17) M16 _ _ dX5_tell_61 g20 h
  · have h := h.2.2.2.1 b2
    refine q_tswIn (tgt := 62) (off := 61) C r1 (by omega) (by omega) (by rw [b2]; rfl) (by decide) dX5_tell_1 ?_
    refine q_iload_n C 1 rfl rfl dX5_tell_62 ?_
    refine q_callSI (As := [.int (gI a1)]) (st := []) C vX5_107 kX5_manOf ⟨by decide, by decide⟩ ⟨by decide, by decide⟩ rfl rfl (Nat.le_of_ble_eq_true rfl) (mX5_manOf l D cy kd ln rh _ a1 M  h) dX5_tell_63 (fun c22 M21 g23 h => ?_)
    have h := h g23
    exact hret c22 M21 _ _ dX5_tell_66 g23 h
  · have h := h.2.2.2.2.1 b2
    refine q_tswIn (tgt := 67) (off := 66) C r1 (by omega) (by omega) (by rw [b2]; rfl) (by decide) dX5_tell_1 ?_
    refine q_iload_n C 1 rfl rfl dX5_tell_67 ?_
    refine q_callSI (As := [.int (gI a1)]) (st := []) C vX5_92 kX5_turnOf ⟨by decide, by decide⟩ ⟨by decide, by decide⟩ rfl rfl (Nat.le_of_ble_eq_true rfl) (mX5_turnOf l D cy kd ln rh _ a1 M  h) dX5_tell_68 (fun c25 M24 g26 h => ?_)
    have h := h g26
    exact hret c25 M24 _ _ dX5_tell_71 g26 h
  · have h := h.2.2.2.2.2 b2
    refine q_tswIn (tgt := 72) (off := 71) C r1 (by omega) (by omega) (by rw [b2]; rfl) (by decide) dX5_tell_1 ?_
    refine q_aload_n C 0 rfl rfl dX5_tell_72 ?_
    obtain ⟨r27, h⟩ := h
    refine q_get (v := .ref (rh a0 1)) C fX5_44 hk0 (if_neg (Int.not_lt.mpr r27)) dX5_tell_73 (fun g28 => ?_)
    refine q_iload_n C 1 rfl rfl dX5_tell_76 ?_
    obtain ⟨r29, h⟩ := h
    refine q_bald C hk0 rfl (fun _ q => q) r29 dX5_tell_77 (fun g30 => ?_)
    have h := h g30
    exact hret (M a0 1 a1) M _ _ dX5_tell_78 g30 h
set_option maxHeartbeats 4000000 in
set_option maxRecDepth 100000 in
theorem mX6_addToLine (l : Launch) (D : va_G) (cy : Nat → ClassId) (kd : gKd) (ln : gLn) (rh : gRh) (post : gM → Prop) (a0 : Int) (a1 : Int) (M : gM) (hk0 : kd a0 = 6) (hk1 : kd a1 = 4) (h : wX6_addToLine kd ln post a0 a1 M) : gMV l D cy yX6_addToLine cX6_addToLine 3 0 0 [.ref (gad a0), .ref (gad a1)] kd ln rh M post := by
  refine gMV_of (own := RX6) (by decide) rfl (Nat.le_of_ble_eq_true rfl) ?_
  intro p e s m args below meth c A H0 Q C hret
  unfold wX6_addToLine at h
  refine q_aload_n C 0 rfl rfl dX6_addToLine_0 ?_
  refine q_get (v := .int (gI (M a0 8 (-1)))) C fX6_56 hk0 rfl dX6_addToLine_1 (fun g1 => ?_)
  have h := h g1
  refine q_iconst C dX6_addToLine_4 ?_
  refine q_imul C dX6_addToLine_5 ?_
  refine q_topi (fun v2 ev2 => ?_)
  have h := h v2 ev2
  refine q_istore_n (lv' := [(2, .int (gI v2)), (0, .ref (gad a0)), (1, .ref (gad a1))]) C rfl (by decide) rfl dX6_addToLine_6 ?_
  refine q_iload_n C 0 rfl rfl dX6_addToLine_7 ?_
  refine q_iconst C dX6_addToLine_8 ?_
  refine q_iadd C dX6_addToLine_9 ?_
  refine q_aload_n C 1 rfl rfl dX6_addToLine_10 ?_
  obtain ⟨r3, h⟩ := h
  refine q_get (v := .ref (rh a0 7)) C fX6_39 hk0 (if_neg (Int.not_lt.mpr r3)) dX6_addToLine_11 (fun g4 => ?_)
  refine q_alen (t0 := 0) C hk0 rfl r3 dX6_addToLine_14 (fun g5 => ?_)
  have h := h g5
  have g6 : rng (ln a0 7) := ⟨by omega, by omega⟩
  obtain ⟨r7, h⟩ := h
  refine q_icmp_le (tgt := 19) C r7 g6 (by decide) dX6_addToLine_15 (fun b8 => ?_) (fun b8 => ?_)
  · have h := h.1 b8
    refine q_aload_n C 1 rfl rfl dX6_addToLine_19 ?_
    refine q_get (v := .ref (rh a0 7)) C fX6_39 hk0 (if_neg (Int.not_lt.mpr r3)) dX6_addToLine_20 (fun g9 => ?_)
    refine q_iload_n C 0 rfl rfl dX6_addToLine_23 ?_
    refine q_aload_n C 2 rfl rfl dX6_addToLine_24 ?_
    refine q_get (v := .int (gI (M a1 0 (-1)))) C fX6_223 hk1 rfl dX6_addToLine_25 (fun g10 => ?_)
    have h := h g10
    obtain ⟨r11, h⟩ := h
    refine q_iast C hk0 rfl g10 r11 dX6_addToLine_28 ?_
    refine q_aload_n C 1 rfl rfl dX6_addToLine_29 ?_
    refine q_get (v := .ref (rh a0 7)) C fX6_39 hk0 (if_neg (Int.not_lt.mpr r3)) dX6_addToLine_30 (fun g12 => ?_)
    refine q_iload_n C 0 rfl rfl dX6_addToLine_33 ?_
    refine q_iconst C dX6_addToLine_34 ?_
    refine q_iadd C dX6_addToLine_35 ?_
    refine q_aload_n C 2 rfl rfl dX6_addToLine_36 ?_
    refine q_get (v := .int (gI ((gu M a0 7 v2 (M a1 0 (-1))) a1 1 (-1)))) C fX6_211 hk1 rfl dX6_addToLine_37 (fun g13 => ?_)
    have h := h g13
    obtain ⟨r14, h⟩ := h
    refine q_iast C hk0 rfl g13 r14 dX6_addToLine_40 ?_
    refine q_aload_n C 1 rfl rfl dX6_addToLine_41 ?_
    refine q_get (v := .ref (rh a0 7)) C fX6_39 hk0 (if_neg (Int.not_lt.mpr r3)) dX6_addToLine_42 (fun g15 => ?_)
    refine q_iload_n C 0 rfl rfl dX6_addToLine_45 ?_
    refine q_iconst C dX6_addToLine_46 ?_
    refine q_iadd C dX6_addToLine_47 ?_
    refine q_aload_n C 2 rfl rfl dX6_addToLine_48 ?_
    refine q_get (v := .int (gI ((gu (gu M a0 7 v2 (M a1 0 (-1))) a0 7 (v2 + 1) ((gu M a0 7 v2 (M a1 0 (-1))) a1 1 (-1))) a1 2 (-1)))) C fX6_226 hk1 rfl dX6_addToLine_49 (fun g16 => ?_)
    have h := h g16
    obtain ⟨r17, h⟩ := h
    refine q_iast C hk0 rfl g16 r17 dX6_addToLine_52 ?_
    refine q_aload_n C 1 rfl rfl dX6_addToLine_53 ?_
    refine q_get (v := .ref (rh a0 7)) C fX6_39 hk0 (if_neg (Int.not_lt.mpr r3)) dX6_addToLine_54 (fun g18 => ?_)
    refine q_iload_n C 0 rfl rfl dX6_addToLine_57 ?_
    refine q_iconst C dX6_addToLine_58 ?_
    refine q_iadd C dX6_addToLine_59 ?_
    refine q_aload_n C 2 rfl rfl dX6_addToLine_60 ?_
    refine q_get (v := .int (gI ((gu (gu (gu M a0 7 v2 (M a1 0 (-1))) a0 7 (v2 + 1) ((gu M a0 7 v2 (M a1 0 (-1))) a1 1 (-1))) a0 7 (v2 + 2) ((gu (gu M a0 7 v2 (M a1 0 (-1))) a0 7 (v2 + 1) ((gu M a0 7 v2 (M a1 0 (-1))) a1 1 (-1))) a1 2 (-1))) a1 3 (-1)))) C fX6_214 hk1 rfl dX6_addToLine_61 (fun g19 => ?_)
    have h := h g19
    obtain ⟨r20, h⟩ := h
    refine q_iast C hk0 rfl g19 r20 dX6_addToLine_64 ?_
    refine q_aload_n C 1 rfl rfl dX6_addToLine_65 ?_
    refine q_get (v := .ref (rh a0 7)) C fX6_39 hk0 (if_neg (Int.not_lt.mpr r3)) dX6_addToLine_66 (fun g21 => ?_)
    refine q_iload_n C 0 rfl rfl dX6_addToLine_69 ?_
    refine q_iconst C dX6_addToLine_70 ?_
    refine q_iadd C dX6_addToLine_71 ?_
    refine q_aload_n C 2 rfl rfl dX6_addToLine_72 ?_
    refine q_get (v := .int (gI ((gu (gu (gu (gu M a0 7 v2 (M a1 0 (-1))) a0 7 (v2 + 1) ((gu M a0 7 v2 (M a1 0 (-1))) a1 1 (-1))) a0 7 (v2 + 2) ((gu (gu M a0 7 v2 (M a1 0 (-1))) a0 7 (v2 + 1) ((gu M a0 7 v2 (M a1 0 (-1))) a1 1 (-1))) a1 2 (-1))) a0 7 (v2 + 3) ((gu (gu (gu M a0 7 v2 (M a1 0 (-1))) a0 7 (v2 + 1) ((gu M a0 7 v2 (M a1 0 (-1))) a1 1 (-1))) a0 7 (v2 + 2) ((gu (gu M a0 7 v2 (M a1 0 (-1))) a0 7 (v2 + 1) ((gu M a0 7 v2 (M a1 0 (-1))) a1 1 (-1))) a1 2 (-1))) a1 3 (-1))) a1 4 (-1)))) C fX6_205 hk1 rfl dX6_addToLine_73 (fun g22 => ?_)
    have h := h g22
    obtain ⟨r23, h⟩ := h
    refine q_iast C hk0 rfl g22 r23 dX6_addToLine_76 ?_
    refine q_aload_n C 1 rfl rfl dX6_addToLine_77 ?_
    refine q_dup C rfl dX6_addToLine_78 ?_
    refine q_get (v := .int (gI ((gu (gu (gu (gu (gu M a0 7 v2 (M a1 0 (-1))) a0 7 (v2 + 1) ((gu M a0 7 v2 (M a1 0 (-1))) a1 1 (-1))) a0 7 (v2 + 2) ((gu (gu M a0 7 v2 (M a1 0 (-1))) a0 7 (v2 + 1) ((gu M a0 7 v2 (M a1 0 (-1))) a1 1 (-1))) a1 2 (-1))) a0 7 (v2 + 3) ((gu (gu (gu M a0 7 v2 (M a1 0 (-1))) a0 7 (v2 + 1) ((gu M a0 7 v2 (M a1 0 (-1))) a1 1 (-1))) a0 7 (v2 + 2) ((gu (gu M a0 7 v2 (M a1 0 (-1))) a0 7 (v2 + 1) ((gu M a0 7 v2 (M a1 0 (-1))) a1 1 (-1))) a1 2 (-1))) a1 3 (-1))) a0 7 (v2 + 4) ((gu (gu (gu (gu M a0 7 v2 (M a1 0 (-1))) a0 7 (v2 + 1) ((gu M a0 7 v2 (M a1 0 (-1))) a1 1 (-1))) a0 7 (v2 + 2) ((gu (gu M a0 7 v2 (M a1 0 (-1))) a0 7 (v2 + 1) ((gu M a0 7 v2 (M a1 0 (-1))) a1 1 (-1))) a1 2 (-1))) a0 7 (v2 + 3) ((gu (gu (gu M a0 7 v2 (M a1 0 (-1))) a0 7 (v2 + 1) ((gu M a0 7 v2 (M a1 0 (-1))) a1 1 (-1))) a0 7 (v2 + 2) ((gu (gu M a0 7 v2 (M a1 0 (-1))) a0 7 (v2 + 1) ((gu M a0 7 v2 (M a1 0 (-1))) a1 1 (-1))) a1 2 (-1))) a1 3 (-1))) a1 4 (-1))) a0 8 (-1)))) C fX6_56 hk0 rfl dX6_addToLine_79 (fun g24 => ?_)
    have h := h g24
    refine q_iconst C dX6_addToLine_82 ?_
    refine q_iadd C dX6_addToLine_83 ?_
    obtain ⟨r25, h⟩ := h
    refine q_put (x := (((gu (gu (gu (gu (gu M a0 7 v2 (M a1 0 (-1))) a0 7 (v2 + 1) ((gu M a0 7 v2 (M a1 0 (-1))) a1 1 (-1))) a0 7 (v2 + 2) ((gu (gu M a0 7 v2 (M a1 0 (-1))) a0 7 (v2 + 1) ((gu M a0 7 v2 (M a1 0 (-1))) a1 1 (-1))) a1 2 (-1))) a0 7 (v2 + 3) ((gu (gu (gu M a0 7 v2 (M a1 0 (-1))) a0 7 (v2 + 1) ((gu M a0 7 v2 (M a1 0 (-1))) a1 1 (-1))) a0 7 (v2 + 2) ((gu (gu M a0 7 v2 (M a1 0 (-1))) a0 7 (v2 + 1) ((gu M a0 7 v2 (M a1 0 (-1))) a1 1 (-1))) a1 2 (-1))) a1 3 (-1))) a0 7 (v2 + 4) ((gu (gu (gu (gu M a0 7 v2 (M a1 0 (-1))) a0 7 (v2 + 1) ((gu M a0 7 v2 (M a1 0 (-1))) a1 1 (-1))) a0 7 (v2 + 2) ((gu (gu M a0 7 v2 (M a1 0 (-1))) a0 7 (v2 + 1) ((gu M a0 7 v2 (M a1 0 (-1))) a1 1 (-1))) a1 2 (-1))) a0 7 (v2 + 3) ((gu (gu (gu M a0 7 v2 (M a1 0 (-1))) a0 7 (v2 + 1) ((gu M a0 7 v2 (M a1 0 (-1))) a1 1 (-1))) a0 7 (v2 + 2) ((gu (gu M a0 7 v2 (M a1 0 (-1))) a0 7 (v2 + 1) ((gu M a0 7 v2 (M a1 0 (-1))) a1 1 (-1))) a1 2 (-1))) a1 3 (-1))) a1 4 (-1))) a0 8 (-1)) + 1)) (ty := .int) C fX6_56 hk0 (fun _ _ _ q => by cases q; rfl) (congrArg (fun z => Value.int (gI z)) gu_s) rfl rfl r25 dX6_addToLine_84 ?_
    exact hret (gu (gu (gu (gu (gu (gu M a0 7 v2 (M a1 0 (-1))) a0 7 (v2 + 1) ((gu M a0 7 v2 (M a1 0 (-1))) a1 1 (-1))) a0 7 (v2 + 2) ((gu (gu M a0 7 v2 (M a1 0 (-1))) a0 7 (v2 + 1) ((gu M a0 7 v2 (M a1 0 (-1))) a1 1 (-1))) a1 2 (-1))) a0 7 (v2 + 3) ((gu (gu (gu M a0 7 v2 (M a1 0 (-1))) a0 7 (v2 + 1) ((gu M a0 7 v2 (M a1 0 (-1))) a1 1 (-1))) a0 7 (v2 + 2) ((gu (gu M a0 7 v2 (M a1 0 (-1))) a0 7 (v2 + 1) ((gu M a0 7 v2 (M a1 0 (-1))) a1 1 (-1))) a1 2 (-1))) a1 3 (-1))) a0 7 (v2 + 4) ((gu (gu (gu (gu M a0 7 v2 (M a1 0 (-1))) a0 7 (v2 + 1) ((gu M a0 7 v2 (M a1 0 (-1))) a1 1 (-1))) a0 7 (v2 + 2) ((gu (gu M a0 7 v2 (M a1 0 (-1))) a0 7 (v2 + 1) ((gu M a0 7 v2 (M a1 0 (-1))) a1 1 (-1))) a1 2 (-1))) a0 7 (v2 + 3) ((gu (gu (gu M a0 7 v2 (M a1 0 (-1))) a0 7 (v2 + 1) ((gu M a0 7 v2 (M a1 0 (-1))) a1 1 (-1))) a0 7 (v2 + 2) ((gu (gu M a0 7 v2 (M a1 0 (-1))) a0 7 (v2 + 1) ((gu M a0 7 v2 (M a1 0 (-1))) a1 1 (-1))) a1 2 (-1))) a1 3 (-1))) a1 4 (-1))) a0 8 (-1) (((gu (gu (gu (gu (gu M a0 7 v2 (M a1 0 (-1))) a0 7 (v2 + 1) ((gu M a0 7 v2 (M a1 0 (-1))) a1 1 (-1))) a0 7 (v2 + 2) ((gu (gu M a0 7 v2 (M a1 0 (-1))) a0 7 (v2 + 1) ((gu M a0 7 v2 (M a1 0 (-1))) a1 1 (-1))) a1 2 (-1))) a0 7 (v2 + 3) ((gu (gu (gu M a0 7 v2 (M a1 0 (-1))) a0 7 (v2 + 1) ((gu M a0 7 v2 (M a1 0 (-1))) a1 1 (-1))) a0 7 (v2 + 2) ((gu (gu M a0 7 v2 (M a1 0 (-1))) a0 7 (v2 + 1) ((gu M a0 7 v2 (M a1 0 (-1))) a1 1 (-1))) a1 2 (-1))) a1 3 (-1))) a0 7 (v2 + 4) ((gu (gu (gu (gu M a0 7 v2 (M a1 0 (-1))) a0 7 (v2 + 1) ((gu M a0 7 v2 (M a1 0 (-1))) a1 1 (-1))) a0 7 (v2 + 2) ((gu (gu M a0 7 v2 (M a1 0 (-1))) a0 7 (v2 + 1) ((gu M a0 7 v2 (M a1 0 (-1))) a1 1 (-1))) a1 2 (-1))) a0 7 (v2 + 3) ((gu (gu (gu M a0 7 v2 (M a1 0 (-1))) a0 7 (v2 + 1) ((gu M a0 7 v2 (M a1 0 (-1))) a1 1 (-1))) a0 7 (v2 + 2) ((gu (gu M a0 7 v2 (M a1 0 (-1))) a0 7 (v2 + 1) ((gu M a0 7 v2 (M a1 0 (-1))) a1 1 (-1))) a1 2 (-1))) a1 3 (-1))) a1 4 (-1))) a0 8 (-1)) + 1)) _ _ dX6_addToLine_87 h
  · have h := h.2 b8
    exact hret M _ _ dX6_addToLine_18 h
set_option maxHeartbeats 4000000 in
set_option maxRecDepth 100000 in
theorem mX6_addToTape (l : Launch) (D : va_G) (cy : Nat → ClassId) (kd : gKd) (ln : gLn) (rh : gRh) (post : gM → Prop) (a0 : Int) (a1 : Int) (M : gM) (hk0 : kd a0 = 6) (h : wX6_addToTape kd ln post a0 a1 M) : gMV l D cy yX6_addToTape cX6_addToTape 3 0 0 [.ref (gad a0), .int (gI a1)] kd ln rh M post := by
  refine gMV_of (own := RX6) (by decide) rfl (Nat.le_of_ble_eq_true rfl) ?_
  intro p e s m args below meth c A H0 Q C hret
  have t3 : ∀ (n : Nat) (x2 : Int) (M : gM), wX6_addToTape_3 kd ln post a0 a1 n x2 M → gW p l e (gRm 0 0) s m args below meth c D cy A H0 Q 3 kd ln rh 0 0 M 3 [(0, .ref (gad a0)), (1, .int (gI a1)), (2, .int (gI x2))] [] := by
    intro n
    induction n with
    | zero => intro x2 M h; exact absurd h (by simp [wX6_addToTape_3])
    | succ n ih =>
      intro x2 M h
      have hk3_ := ih
      rw [wX6_addToTape_3] at h
      refine q_iload_n C 2 rfl rfl dX6_addToTape_3 ?_
      obtain ⟨r1, h⟩ := h
      refine q_if_lt (tgt := 39) C r1 (by decide) dX6_addToTape_4 (fun b2 => ?_) (fun b2 => ?_)
      · have h := h.1 b2
        exact hret M _ _ dX6_addToTape_39 h
      · have h := h.2 b2
        refine q_aload_n C 0 rfl rfl dX6_addToTape_7 ?_
        obtain ⟨r3, h⟩ := h
        refine q_get (v := .ref (rh a0 9)) C fX6_43 hk0 (if_neg (Int.not_lt.mpr r3)) dX6_addToTape_8 (fun g4 => ?_)
        refine q_aload_n C 0 rfl rfl dX6_addToTape_11 ?_
        refine q_get (v := .int (gI (M a0 10 (-1)))) C fX6_167 hk0 rfl dX6_addToTape_12 (fun g5 => ?_)
        have h := h g5
        refine q_iload_n C 1 rfl rfl dX6_addToTape_15 ?_
        refine q_iload_n C 2 rfl rfl dX6_addToTape_16 ?_
        refine q_iushr C dX6_addToTape_17 ?_
        refine q_sipush C (by decide) dX6_addToTape_18 ?_
        refine q_iand C dX6_addToTape_21 ?_
        obtain ⟨r6, h⟩ := h
        obtain ⟨r7, h⟩ := h
        refine q_iast C hk0 rfl r7 r6 dX6_addToTape_22 ?_
        refine q_aload_n C 0 rfl rfl dX6_addToTape_23 ?_
        refine q_dup C rfl dX6_addToTape_24 ?_
        refine q_get (v := .int (gI ((gu M a0 9 (M a0 10 (-1)) (giand (giushr a1 x2) 255)) a0 10 (-1)))) C fX6_167 hk0 rfl dX6_addToTape_25 (fun g8 => ?_)
        have h := h g8
        refine q_iconst C dX6_addToTape_28 ?_
        refine q_iadd C dX6_addToTape_29 ?_
        obtain ⟨r9, h⟩ := h
        refine q_put (x := (((gu M a0 9 (M a0 10 (-1)) (giand (giushr a1 x2) 255)) a0 10 (-1)) + 1)) (ty := .int) C fX6_167 hk0 (fun _ _ _ q => by cases q; rfl) (congrArg (fun z => Value.int (gI z)) gu_s) rfl rfl r9 dX6_addToTape_30 ?_
        refine q_iinc (lv' := [(2, .int (gI (x2 + (-8)))), (0, .ref (gad a0)), (1, .int (gI a1))]) C 2 rfl (by decide) rfl dX6_addToTape_33 ?_
        refine q_goto (tgt := 3) C (by decide) dX6_addToTape_36 ?_
        refine q_lv (lv' := [(0, .ref (gad a0)), (1, .int (gI a1)), (2, .int (gI (x2 + (-8))))]) [1, 2, 0] rfl ?_
        exact hk3_ (x2 + (-8)) (gu (gu M a0 9 (M a0 10 (-1)) (giand (giushr a1 x2) 255)) a0 10 (-1) (((gu M a0 9 (M a0 10 (-1)) (giand (giushr a1 x2) 255)) a0 10 (-1)) + 1)) h
  unfold wX6_addToTape at h
  refine q_bipush C (by decide) dX6_addToTape_0 ?_
  refine q_istore_n (lv' := [(2, .int (gI 24)), (0, .ref (gad a0)), (1, .int (gI a1))]) C rfl (by decide) rfl dX6_addToTape_2 ?_
  refine q_lv (lv' := [(0, .ref (gad a0)), (1, .int (gI a1)), (2, .int (gI 24))]) [1, 2, 0] rfl ?_
  obtain ⟨j3, h⟩ := h
  exact t3  j3 24 M h
set_option maxHeartbeats 4000000 in
set_option maxRecDepth 100000 in
theorem mX6_demandMade (l : Launch) (D : va_G) (cy : Nat → ClassId) (kd : gKd) (ln : gLn) (rh : gRh) (post : Int → gM → Prop) (px : gM → Prop) (a0 : Int) (a1 : Int) (M : gM) (hst : l.stackTraces = false) (hk0 : kd a0 = 6) (h : wX6_demandMade kd ln post px a0 a1 M) : gTR l D cy yX6_demandMade cX6_demandMade 3 RX5 6 96 [.ref (gad a0), .int (gI a1)] kd ln rh M post px := by
  refine gTR_of (own := RX6) (by decide) rfl (Nat.le_of_ble_eq_true rfl) hst rfl ?_
  intro p e s m args below meth c A H0 Q C hret hthr hexc
  have t31 : ∀ (y0 : Int) (M : gM), wX6_demandMade_31 kd ln post px a0 a1 y0 M → gW p l e (gRt 6 96) s m args below meth c D cy A H0 Q 3 kd ln rh 0 0 M 31 [] [gR y0] := by
    intro  y0 M h
    unfold wX6_demandMade_31 at h
    refine q_astoreR_n (lv' := [(2, gR y0)]) C rfl (by decide) rfl dX6_demandMade_31 ?_
    refine q_aloadR_n C 0 rfl rfl dX6_demandMade_32 ?_
    refine q_ifnonnull (tgt := 46) C (by decide) dX6_demandMade_33 (fun b14 => ?_) (fun b14 => ?_)
    · have h := h.1 b14
      refine q_aloadR_n C 0 rfl rfl dX6_demandMade_46 ?_
      obtain ⟨r15, h⟩ := h
      refine q_nn r15 (by decide) ?_
      exact hret y0 M _ _ 0 0 (by decide) (by decide) dX6_demandMade_47 h
    · have h := h.2 b14
      exact hthr (196, "no such table", 23) M _ _ _ (by decide) dX6_demandMade_36 dX6_demandMade_39 dX6_demandMade_40 dX6_demandMade_42 dX6_demandMade_45 (by decide) (Nat.le_of_ble_eq_true rfl) h
  have t18 : ∀ (M : gM), wX6_demandMade_18 kd ln post px a0 a1  M → gW p l e (gRt 6 96) s m args below meth c D cy A H0 Q 3 kd ln rh 0 0 M 18 [] [] := by
    intro   M h
    unfold wX6_demandMade_18 at h
    refine q_null C dX6_demandMade_18 ?_
    refine q_goto (tgt := 31) C (by decide) dX6_demandMade_19 ?_
    exact t31  0 M h
  unfold wX6_demandMade at h
  refine q_iload_n C 1 rfl rfl dX6_demandMade_0 ?_
  obtain ⟨r1, h⟩ := h
  refine q_if_lt (tgt := 18) C r1 (by decide) dX6_demandMade_1 (fun b2 => ?_) (fun b2 => ?_)
  · have h := h.1 b2
    refine q_lv (lv' := []) [] rfl ?_
    exact t18  M h
  · have h := h.2 b2
    refine q_iload_n C 1 rfl rfl dX6_demandMade_4 ?_
    refine q_iconst C dX6_demandMade_5 ?_
    refine q_icmp_gt (tgt := 18) C r1 (show rng 2 by decide) (by decide) dX6_demandMade_6 (fun b3 => ?_) (fun b3 => ?_)
    · have h := h.1 b3
      refine q_lv (lv' := []) [] rfl ?_
      exact t18  M h
    · have h := h.2 b3
      refine q_aload_n C 0 rfl rfl dX6_demandMade_9 ?_
      obtain ⟨r4, h⟩ := h
      refine q_get (v := .ref (rh a0 2)) C fX6_15 hk0 (if_neg (Int.not_lt.mpr r4)) dX6_demandMade_10 (fun g5 => ?_)
      refine q_iload_n C 1 rfl rfl dX6_demandMade_13 ?_
      obtain ⟨r6, h⟩ := h
      refine q_zald C hk0 rfl (fun _ q => q) r6 dX6_demandMade_14 (fun g7 => ?_)
      have h := h g7
      refine q_if_ne (tgt := 22) C g7 (by decide) dX6_demandMade_15 (fun b8 => ?_) (fun b8 => ?_)
      · have h := h.1 b8
        refine q_aload_n C 0 rfl rfl dX6_demandMade_22 ?_
        refine q_get (v := gR (M a0 1 (-1))) C fX6_52 hk0 rfl dX6_demandMade_23 (fun g9 => ?_)
        obtain ⟨r10, h⟩ := h
        refine q_nn r10 (by decide) ?_
        obtain ⟨r11, h⟩ := h
        refine q_get (v := .ref (rh (M a0 1 (-1)) 5)) C fX6_190 r10 (if_neg (Int.not_lt.mpr r11)) dX6_demandMade_26 (fun g12 => ?_)
        refine q_iload_n C 1 rfl rfl dX6_demandMade_29 ?_
        obtain ⟨r13, h⟩ := h
        refine q_aald (t0 := 5) C r10 rfl (fun _ _ => rfl) rfl r13 dX6_demandMade_30 ?_
        refine q_lv (lv' := []) [] rfl ?_
        exact t31  (M (M a0 1 (-1)) 5 a1) M h
      · have h := h.2 b8
        refine q_lv (lv' := []) [] rfl ?_
        exact t18  M h
set_option maxHeartbeats 4000000 in
set_option maxRecDepth 100000 in
theorem mX6_demandTable (l : Launch) (D : va_G) (cy : Nat → ClassId) (kd : gKd) (ln : gLn) (rh : gRh) (post : Int → gM → Prop) (px : gM → Prop) (a0 : Int) (a1 : Int) (a2 : Int) (a3 : Int) (a4 : Int) (a5 : Int) (M : gM) (hst : l.stackTraces = false) (hk0 : kd a0 = 6) (h : wX6_demandTable kd ln post px a0 a1 a2 a3 a4 a5 M) : gTR l D cy yX6_demandTable cX6_demandTable 6 RX5 7 118 [.ref (gad a0), .int (gI a1), .int (gI a2), .int (gI a3), .int (gI a4), .int (gI a5)] kd ln rh M post px := by
  refine gTR_of (own := RX6) (by decide) rfl (Nat.le_of_ble_eq_true rfl) hst rfl ?_
  intro p e s m args below meth c A H0 Q C hret hthr hexc
  unfold wX6_demandTable at h
  refine q_aload_n C 0 rfl rfl dX6_demandTable_0 ?_
  refine q_get (v := gR (M a0 1 (-1))) C fX6_52 hk0 rfl dX6_demandTable_1 (fun g1 => ?_)
  obtain ⟨r2, h⟩ := h
  refine q_nn r2 (by decide) ?_
  refine q_iload_n C 1 rfl rfl dX6_demandTable_4 ?_
  refine q_iload_n C 2 rfl rfl dX6_demandTable_5 ?_
  refine q_iload_n C 3 rfl rfl dX6_demandTable_6 ?_
  refine q_iload C 4 rfl dX6_demandTable_7 ?_
  refine q_iload C 5 rfl dX6_demandTable_9 ?_
  refine q_callVI (As := [.int (gI a1), .int (gI a2), .int (gI a3), .int (gI a4), .int (gI a5)]) (st := []) C vX6_70 kX0_allows ⟨by decide, by decide⟩ ⟨by decide, by decide⟩ rfl r2 ⟨_, _, rfl⟩ (by decide) rfl (Nat.le_of_ble_eq_true rfl) (mX0_allows l D cy kd ln rh _ (M a0 1 (-1)) a1 a2 a3 a4 a5 M r2 h) dX6_demandTable_11 (fun c4 M3 g5 h => ?_)
  have h := h g5
  refine q_if_ne (tgt := 27) C g5 (by decide) dX6_demandTable_14 (fun b6 => ?_) (fun b6 => ?_)
  · have h := h.1 b6
    refine q_aload_n C 0 rfl rfl dX6_demandTable_27 ?_
    refine q_iload_n C 1 rfl rfl dX6_demandTable_28 ?_
    refine q_callTR (As := [.int (gI a1)]) (st := []) C vX6_138 kX6_demandMade ⟨by decide, by decide⟩ ⟨by decide, by decide⟩ rfl hk0 ⟨_, _, rfl⟩ (by decide) rfl (Nat.le_of_ble_eq_true rfl) (mX6_demandMade l D cy kd ln rh _ _ a0 a1 M3 hst hk0 h) dX6_demandTable_29 (fun M9 h => hexc M9 _ _ _ _ _ (by decide) (by decide) h) (fun c8 M7 h => ?_)
    exact hret c8 M7 _ _ 1 6 (by decide) (by decide) dX6_demandTable_32 h
  · have h := h.2 b6
    exact hthr (203, "no such position", 22) M3 _ _ _ (by decide) dX6_demandTable_17 dX6_demandTable_20 dX6_demandTable_21 dX6_demandTable_23 dX6_demandTable_26 (by decide) (Nat.le_of_ble_eq_true rfl) h
set_option maxHeartbeats 4000000 in
set_option maxRecDepth 100000 in
theorem mX6_lookUp (l : Launch) (D : va_G) (cy : Nat → ClassId) (kd : gKd) (ln : gLn) (rh : gRh) (post : Int → gM → Prop) (a0 : Int) (a1 : Int) (a2 : Int) (a3 : Int) (a4 : Int) (a5 : Int) (M : gM) (hk0 : kd a0 = 6) (h : wX6_lookUp kd ln post a0 a1 a2 a3 a4 a5 M) : gMI l D cy yX6_lookUp cX6_lookUp 7 .int 3 74 [.ref (gad a0), .int (gI a1), .int (gI a2), .int (gI a3), .int (gI a4), .int (gI a5)] kd ln rh M post := by
  refine gMI_of (own := RX6) (by decide) rfl (Nat.le_of_ble_eq_true rfl) ?_
  intro p e s m args below meth c A H0 Q C hret
  unfold wX6_lookUp at h
  refine q_aload_n C 0 rfl rfl dX6_lookUp_0 ?_
  refine q_get (v := gR (M a0 1 (-1))) C fX6_52 hk0 rfl dX6_lookUp_1 (fun g1 => ?_)
  obtain ⟨r2, h⟩ := h
  refine q_nn r2 (by decide) ?_
  obtain ⟨r3, h⟩ := h
  refine q_get (v := .ref (rh (M a0 1 (-1)) 5)) C fX6_190 r2 (if_neg (Int.not_lt.mpr r3)) dX6_lookUp_4 (fun g4 => ?_)
  refine q_iload_n C 1 rfl rfl dX6_lookUp_7 ?_
  obtain ⟨r5, h⟩ := h
  refine q_aald (t0 := 5) C r2 rfl (fun _ _ => rfl) rfl r5 dX6_lookUp_8 ?_
  refine q_astoreR (lv' := [(6, gR (M (M a0 1 (-1)) 5 a1)), (0, .ref (gad a0)), (1, .int (gI a1)), (2, .int (gI a2)), (3, .int (gI a3)), (4, .int (gI a4)), (5, .int (gI a5))]) C (by decide) rfl dX6_lookUp_9 ?_
  refine q_aloadR C 0 rfl dX6_lookUp_11 ?_
  refine q_ifnonnull (tgt := 20) C (by decide) dX6_lookUp_13 (fun b6 => ?_) (fun b6 => ?_)
  · have h := h.1 b6
    refine q_aloadR C 0 rfl dX6_lookUp_20 ?_
    obtain ⟨r7, h⟩ := h
    refine q_nn r7 (by decide) ?_
    refine q_iload_n C 3 rfl rfl dX6_lookUp_22 ?_
    refine q_iload_n C 4 rfl rfl dX6_lookUp_23 ?_
    refine q_iload C 5 rfl dX6_lookUp_24 ?_
    refine q_iload C 6 rfl dX6_lookUp_26 ?_
    refine q_callVI (As := [.int (gI a2), .int (gI a3), .int (gI a4), .int (gI a5)]) (st := []) C vX6_102 kX5_look ⟨by decide, by decide⟩ ⟨by decide, by decide⟩ rfl r7 ⟨_, _, rfl⟩ (by decide) rfl (Nat.le_of_ble_eq_true rfl) (mX5_look l D cy kd ln rh _ (M (M a0 1 (-1)) 5 a1) a2 a3 a4 a5 M r7 h) dX6_lookUp_28 (fun c9 M8 g10 h => ?_)
    have h := h g10
    exact hret c9 M8 _ _ dX6_lookUp_31 g10 h
  · have h := h.2 b6
    refine q_iconst C dX6_lookUp_16 ?_
    refine q_goto (tgt := 31) C (by decide) dX6_lookUp_17 ?_
    exact hret (-1) M _ _ dX6_lookUp_31 (show rng (-1) by decide) h
set_option maxHeartbeats 4000000 in
set_option maxRecDepth 100000 in
theorem mX6_gatherBlack (l : Launch) (D : va_G) (cy : Nat → ClassId) (kd : gKd) (ln : gLn) (rh : gRh) (post : gM → Prop) (a0 : Int) (a1 : Int) (a2 : Int) (M : gM) (hk0 : kd a0 = 6) (hk1 : kd a1 = 1) (hk2 : kd a2 = 4) (h : wX6_gatherBlack kd ln post a0 a1 a2 M) : gMV l D cy yX6_gatherBlack cX6_gatherBlack 9 4 100 [.ref (gad a0), .ref (gad a1), .ref (gad a2)] kd ln rh M post := by
  refine gMV_of (own := RX6) (by decide) rfl (Nat.le_of_ble_eq_true rfl) ?_
  intro p e s m args below meth c A H0 Q C hret
  have t73 : ∀ (k27 : BitVec 64 → gM → Prop), (∀ (x5 : BitVec 64), ∀ (M : gM), k27 x5 M → gW p l e (gRm 4 100) s m args below meth c D cy A H0 Q 9 kd ln rh 0 0 M 27 [(0, .ref (gad a0)), (1, .ref (gad a1)), (2, .ref (gad a2)), (5, .long (gL x5))] []) → ∀ (x5 : BitVec 64) (x7 : Int) (y0 : Int) (M : gM), wX6_gatherBlack_73 kd ln post a0 a1 a2 k27 x5 x7 y0 M → gW p l e (gRm 4 100) s m args below meth c D cy A H0 Q 9 kd ln rh 0 0 M 73 [(0, .ref (gad a0)), (1, .ref (gad a1)), (2, .ref (gad a2)), (5, .long (gL x5)), (7, .int (gI x7))] [.int (gI y0)] := by
    intro k27 hk27_ x5 x7 y0 M h
    unfold wX6_gatherBlack_73 at h
    refine q_istore (lv' := [(8, .int (gI y0)), (0, .ref (gad a0)), (1, .ref (gad a1)), (2, .ref (gad a2)), (5, .long (gL x5)), (7, .int (gI x7))]) C (by decide) rfl dX6_gatherBlack_73 ?_
    refine q_aload_n C 2 rfl rfl dX6_gatherBlack_75 ?_
    refine q_aload_n C 3 rfl rfl dX6_gatherBlack_76 ?_
    refine q_get (v := .int (gI (M a2 2 (-1)))) C fX6_226 hk2 rfl dX6_gatherBlack_77 (fun g22 => ?_)
    have h := h g22
    refine q_iload C 5 rfl dX6_gatherBlack_80 ?_
    refine q_iconst C dX6_gatherBlack_82 ?_
    refine q_iload C 0 rfl dX6_gatherBlack_83 ?_
    refine q_callVV (As := [.int (gI (M a2 2 (-1))), .int (gI x7), .int (gI (-1)), .int (gI y0)]) (st := []) C vX6_236 kX1_add ⟨by decide, by decide⟩ ⟨by decide, by decide⟩ rfl hk1 ⟨_, _, rfl⟩ (by decide) rfl (Nat.le_of_ble_eq_true rfl) (mX1_add l D cy kd ln rh _ a1 (M a2 2 (-1)) x7 (-1) y0 M hk1 h) dX6_gatherBlack_85 (fun M23 h => ?_)
    refine q_lload C 4 rfl dX6_gatherBlack_88 ?_
    refine q_lload C 4 rfl dX6_gatherBlack_90 ?_
    refine q_lconst (b := 1) C rfl dX6_gatherBlack_92 ?_
    refine q_lsub C dX6_gatherBlack_93 ?_
    refine q_land C dX6_gatherBlack_94 ?_
    refine q_topl (fun v26 ev26 => ?_)
    have h := h v26 ev26
    refine q_lstore (lv' := [(5, .long (gL v26)), (8, .int (gI y0)), (0, .ref (gad a0)), (1, .ref (gad a1)), (2, .ref (gad a2)), (7, .int (gI x7))]) C (by decide) rfl dX6_gatherBlack_95 ?_
    refine q_goto (tgt := 27) C (by decide) dX6_gatherBlack_97 ?_
    refine q_lv (lv' := [(0, .ref (gad a0)), (1, .ref (gad a1)), (2, .ref (gad a2)), (5, .long (gL v26))]) [2, 3, 4, 0] rfl ?_
    exact hk27_ v26 M23 h
  have t27 : ∀ (n : Nat) (x5 : BitVec 64) (M : gM), wX6_gatherBlack_27 kd ln post a0 a1 a2 n x5 M → gW p l e (gRm 4 100) s m args below meth c D cy A H0 Q 9 kd ln rh 0 0 M 27 [(0, .ref (gad a0)), (1, .ref (gad a1)), (2, .ref (gad a2)), (5, .long (gL x5))] [] := by
    intro n
    induction n with
    | zero => intro x5 M h; exact absurd h (by simp [wX6_gatherBlack_27])
    | succ n ih =>
      intro x5 M h
      have hk27_ := ih
      rw [wX6_gatherBlack_27] at h
      refine q_lload C 3 rfl dX6_gatherBlack_27 ?_
      refine q_lconst (b := 0) C rfl dX6_gatherBlack_29 ?_
      refine q_lcmp C dX6_gatherBlack_30 ?_
      refine q_if_eq (tgt := 100) C (rng_of _) (by decide) dX6_gatherBlack_31 (fun b10 => ?_) (fun b10 => ?_)
      · have h := h.1 b10
        exact hret M _ _ dX6_gatherBlack_100 h
      · have h := h.2 b10
        refine q_lload C 3 rfl dX6_gatherBlack_34 ?_
        refine q_callSI (As := [.long (gL x5)]) (st := []) C vX6_229 kX6_lowest ⟨by decide, by decide⟩ ⟨by decide, by decide⟩ rfl rfl (Nat.le_of_ble_eq_true rfl) (mX6_lowest l D cy kd ln rh _ x5 M  h) dX6_gatherBlack_36 (fun c12 M11 g13 h => ?_)
        have h := h g13
        refine q_istore (lv' := [(7, .int (gI c12)), (0, .ref (gad a0)), (1, .ref (gad a1)), (2, .ref (gad a2)), (5, .long (gL x5))]) C (by decide) rfl dX6_gatherBlack_39 ?_
        refine q_iload C 0 rfl dX6_gatherBlack_41 ?_
        refine q_aload_n C 3 rfl rfl dX6_gatherBlack_43 ?_
        refine q_get (v := .int (gI (M11 a2 3 (-1)))) C fX6_214 hk2 rfl dX6_gatherBlack_44 (fun g14 => ?_)
        have h := h g14
        refine q_icmp_ne (tgt := 54) C g13 g14 (by decide) dX6_gatherBlack_47 (fun b15 => ?_) (fun b15 => ?_)
        · have h := h.1 b15
          refine q_aload_n C 1 rfl rfl dX6_gatherBlack_54 ?_
          refine q_aload_n C 3 rfl rfl dX6_gatherBlack_55 ?_
          refine q_get (v := .int (gI (M11 a2 0 (-1)))) C fX6_223 hk2 rfl dX6_gatherBlack_56 (fun g16 => ?_)
          have h := h g16
          refine q_aload_n C 3 rfl rfl dX6_gatherBlack_59 ?_
          refine q_get (v := .int (gI (M11 a2 1 (-1)))) C fX6_211 hk2 rfl dX6_gatherBlack_60 (fun g17 => ?_)
          have h := h g17
          refine q_iload C 0 rfl dX6_gatherBlack_63 ?_
          refine q_aload_n C 3 rfl rfl dX6_gatherBlack_65 ?_
          refine q_get (v := .int (gI (M11 a2 3 (-1)))) C fX6_214 hk2 rfl dX6_gatherBlack_66 (fun g18 => ?_)
          refine q_iconst C dX6_gatherBlack_69 ?_
          refine q_callVI (As := [.int (gI (M11 a2 0 (-1))), .int (gI (M11 a2 1 (-1))), .int (gI c12), .int (gI (M11 a2 3 (-1))), .int (gI 0)]) (st := []) C vX6_232 kX6_lookUp ⟨by decide, by decide⟩ ⟨by decide, by decide⟩ rfl hk0 ⟨_, _, rfl⟩ (by decide) rfl (Nat.le_of_ble_eq_true rfl) (mX6_lookUp l D cy kd ln rh _ a0 (M11 a2 0 (-1)) (M11 a2 1 (-1)) c12 (M11 a2 3 (-1)) 0 M11 hk0 h) dX6_gatherBlack_70 (fun c20 M19 g21 h => ?_)
          have h := h g21
          refine q_lv (lv' := [(0, .ref (gad a0)), (1, .ref (gad a1)), (2, .ref (gad a2)), (5, .long (gL x5)), (7, .int (gI c12))]) [1, 2, 3, 4, 0] rfl ?_
          exact t73 (wX6_gatherBlack_27 kd ln post a0 a1 a2 n) hk27_ x5 c12 c20 M19 h
        · have h := h.2 b15
          refine q_iconst C dX6_gatherBlack_50 ?_
          refine q_goto (tgt := 73) C (by decide) dX6_gatherBlack_51 ?_
          refine q_lv (lv' := [(0, .ref (gad a0)), (1, .ref (gad a1)), (2, .ref (gad a2)), (5, .long (gL x5)), (7, .int (gI c12))]) [1, 2, 3, 4, 0] rfl ?_
          exact t73 (wX6_gatherBlack_27 kd ln post a0 a1 a2 n) hk27_ x5 c12 (-1) M11 h
  unfold wX6_gatherBlack at h
  refine q_aload_n C 0 rfl rfl dX6_gatherBlack_0 ?_
  refine q_get (v := gR (M a0 1 (-1))) C fX6_52 hk0 rfl dX6_gatherBlack_1 (fun g1 => ?_)
  obtain ⟨r2, h⟩ := h
  refine q_nn r2 (by decide) ?_
  refine q_aload_n C 2 rfl rfl dX6_gatherBlack_4 ?_
  refine q_get (v := .int (gI (M a2 0 (-1)))) C fX6_223 hk2 rfl dX6_gatherBlack_5 (fun g3 => ?_)
  have h := h g3
  refine q_aload_n C 2 rfl rfl dX6_gatherBlack_8 ?_
  refine q_get (v := .int (gI (M a2 1 (-1)))) C fX6_211 hk2 rfl dX6_gatherBlack_9 (fun g4 => ?_)
  have h := h g4
  refine q_aload_n C 2 rfl rfl dX6_gatherBlack_12 ?_
  refine q_get (v := .int (gI (M a2 2 (-1)))) C fX6_226 hk2 rfl dX6_gatherBlack_13 (fun g5 => ?_)
  have h := h g5
  refine q_aload_n C 2 rfl rfl dX6_gatherBlack_16 ?_
  refine q_get (v := .int (gI (M a2 3 (-1)))) C fX6_214 hk2 rfl dX6_gatherBlack_17 (fun g6 => ?_)
  have h := h g6
  refine q_callVL (As := [.int (gI (M a2 0 (-1))), .int (gI (M a2 1 (-1))), .int (gI (M a2 2 (-1))), .int (gI (M a2 3 (-1)))]) (st := []) C vX6_74 kX0_blackTargets ⟨by decide, by decide⟩ ⟨by decide, by decide⟩ rfl r2 ⟨_, _, rfl⟩ (by decide) rfl (Nat.le_of_ble_eq_true rfl) (mX0_blackTargets l D cy kd ln rh _ (M a0 1 (-1)) (M a2 0 (-1)) (M a2 1 (-1)) (M a2 2 (-1)) (M a2 3 (-1)) M r2 h) dX6_gatherBlack_20 (fun c8 M7 h => ?_)
  refine q_lstore_n (lv' := [(3, .long (gL c8)), (0, .ref (gad a0)), (1, .ref (gad a1)), (2, .ref (gad a2))]) C rfl (by decide) rfl dX6_gatherBlack_23 ?_
  refine q_lload_n C 0 rfl rfl dX6_gatherBlack_24 ?_
  refine q_lstore (lv' := [(5, .long (gL c8)), (3, .long (gL c8)), (0, .ref (gad a0)), (1, .ref (gad a1)), (2, .ref (gad a2))]) C (by decide) rfl dX6_gatherBlack_25 ?_
  refine q_lv (lv' := [(0, .ref (gad a0)), (1, .ref (gad a1)), (2, .ref (gad a2)), (5, .long (gL c8))]) [2, 3, 4, 0] rfl ?_
  obtain ⟨j27, h⟩ := h
  exact t27  j27 c8 M7 h
set_option maxHeartbeats 4000000 in
set_option maxRecDepth 100000 in
theorem mX6_gatherKing (l : Launch) (D : va_G) (cy : Nat → ClassId) (kd : gKd) (ln : gLn) (rh : gRh) (post : gM → Prop) (a0 : Int) (a1 : Int) (a2 : Int) (M : gM) (hk0 : kd a0 = 6) (hk1 : kd a1 = 1) (hk2 : kd a2 = 4) (h : wX6_gatherKing kd ln post a0 a1 a2 M) : gMV l D cy yX6_gatherKing cX6_gatherKing 8 4 100 [.ref (gad a0), .ref (gad a1), .ref (gad a2)] kd ln rh M post := by
  refine gMV_of (own := RX6) (by decide) rfl (Nat.le_of_ble_eq_true rfl) ?_
  intro p e s m args below meth c A H0 Q C hret
  have t23 : ∀ (n : Nat) (x5 : BitVec 64) (M : gM), wX6_gatherKing_23 kd ln post a0 a1 a2 n x5 M → gW p l e (gRm 4 100) s m args below meth c D cy A H0 Q 8 kd ln rh 0 0 M 23 [(0, .ref (gad a0)), (1, .ref (gad a1)), (2, .ref (gad a2)), (5, .long (gL x5))] [] := by
    intro n
    induction n with
    | zero => intro x5 M h; exact absurd h (by simp [wX6_gatherKing_23])
    | succ n ih =>
      intro x5 M h
      have hk23_ := ih
      rw [wX6_gatherKing_23] at h
      refine q_lload C 3 rfl dX6_gatherKing_23 ?_
      refine q_lconst (b := 0) C rfl dX6_gatherKing_25 ?_
      refine q_lcmp C dX6_gatherKing_26 ?_
      refine q_if_eq (tgt := 79) C (rng_of _) (by decide) dX6_gatherKing_27 (fun b9 => ?_) (fun b9 => ?_)
      · have h := h.1 b9
        exact hret M _ _ dX6_gatherKing_79 h
      · have h := h.2 b9
        refine q_lload C 3 rfl dX6_gatherKing_30 ?_
        refine q_callSI (As := [.long (gL x5)]) (st := []) C vX6_229 kX6_lowest ⟨by decide, by decide⟩ ⟨by decide, by decide⟩ rfl rfl (Nat.le_of_ble_eq_true rfl) (mX6_lowest l D cy kd ln rh _ x5 M  h) dX6_gatherKing_32 (fun c11 M10 g12 h => ?_)
        have h := h g12
        refine q_istore (lv' := [(7, .int (gI c11)), (0, .ref (gad a0)), (1, .ref (gad a1)), (2, .ref (gad a2)), (5, .long (gL x5))]) C (by decide) rfl dX6_gatherKing_35 ?_
        refine q_aload_n C 2 rfl rfl dX6_gatherKing_37 ?_
        refine q_aload_n C 3 rfl rfl dX6_gatherKing_38 ?_
        refine q_get (v := .int (gI (M10 a2 1 (-1)))) C fX6_211 hk2 rfl dX6_gatherKing_39 (fun g13 => ?_)
        have h := h g13
        refine q_iload C 0 rfl dX6_gatherKing_42 ?_
        refine q_iconst C dX6_gatherKing_44 ?_
        refine q_aload_n C 1 rfl rfl dX6_gatherKing_45 ?_
        refine q_aload_n C 3 rfl rfl dX6_gatherKing_46 ?_
        refine q_get (v := .int (gI (M10 a2 0 (-1)))) C fX6_223 hk2 rfl dX6_gatherKing_47 (fun g14 => ?_)
        have h := h g14
        refine q_iload C 0 rfl dX6_gatherKing_50 ?_
        refine q_aload_n C 3 rfl rfl dX6_gatherKing_52 ?_
        refine q_get (v := .int (gI (M10 a2 2 (-1)))) C fX6_226 hk2 rfl dX6_gatherKing_53 (fun g15 => ?_)
        have h := h g15
        refine q_aload_n C 3 rfl rfl dX6_gatherKing_56 ?_
        refine q_get (v := .int (gI (M10 a2 3 (-1)))) C fX6_214 hk2 rfl dX6_gatherKing_57 (fun g16 => ?_)
        have h := h g16
        refine q_iconst C dX6_gatherKing_60 ?_
        refine q_callVI (As := [.int (gI (M10 a2 0 (-1))), .int (gI c11), .int (gI (M10 a2 2 (-1))), .int (gI (M10 a2 3 (-1))), .int (gI 1)]) (st := [.int (gI (-1)), .int (gI c11), .int (gI (M10 a2 1 (-1))), .ref (gad a1)]) C vX6_232 kX6_lookUp ⟨by decide, by decide⟩ ⟨by decide, by decide⟩ rfl hk0 ⟨_, _, rfl⟩ (by decide) rfl (Nat.le_of_ble_eq_true rfl) (mX6_lookUp l D cy kd ln rh _ a0 (M10 a2 0 (-1)) c11 (M10 a2 2 (-1)) (M10 a2 3 (-1)) 1 M10 hk0 h) dX6_gatherKing_61 (fun c18 M17 g19 h => ?_)
        have h := h g19
        refine q_callVV (As := [.int (gI (M10 a2 1 (-1))), .int (gI c11), .int (gI (-1)), .int (gI c18)]) (st := []) C vX6_236 kX1_add ⟨by decide, by decide⟩ ⟨by decide, by decide⟩ rfl hk1 ⟨_, _, rfl⟩ (by decide) rfl (Nat.le_of_ble_eq_true rfl) (mX1_add l D cy kd ln rh _ a1 (M10 a2 1 (-1)) c11 (-1) c18 M17 hk1 h) dX6_gatherKing_64 (fun M20 h => ?_)
        refine q_lload C 4 rfl dX6_gatherKing_67 ?_
        refine q_lload C 4 rfl dX6_gatherKing_69 ?_
        refine q_lconst (b := 1) C rfl dX6_gatherKing_71 ?_
        refine q_lsub C dX6_gatherKing_72 ?_
        refine q_land C dX6_gatherKing_73 ?_
        refine q_topl (fun v23 ev23 => ?_)
        have h := h v23 ev23
        refine q_lstore (lv' := [(5, .long (gL v23)), (7, .int (gI c11)), (0, .ref (gad a0)), (1, .ref (gad a1)), (2, .ref (gad a2))]) C (by decide) rfl dX6_gatherKing_74 ?_
        refine q_goto (tgt := 23) C (by decide) dX6_gatherKing_76 ?_
        refine q_lv (lv' := [(0, .ref (gad a0)), (1, .ref (gad a1)), (2, .ref (gad a2)), (5, .long (gL v23))]) [2, 3, 4, 0] rfl ?_
        exact hk23_ v23 M20 h
  unfold wX6_gatherKing at h
  refine q_aload_n C 0 rfl rfl dX6_gatherKing_0 ?_
  refine q_get (v := gR (M a0 1 (-1))) C fX6_52 hk0 rfl dX6_gatherKing_1 (fun g1 => ?_)
  obtain ⟨r2, h⟩ := h
  refine q_nn r2 (by decide) ?_
  refine q_aload_n C 2 rfl rfl dX6_gatherKing_4 ?_
  refine q_get (v := .int (gI (M a2 1 (-1)))) C fX6_211 hk2 rfl dX6_gatherKing_5 (fun g3 => ?_)
  have h := h g3
  refine q_aload_n C 2 rfl rfl dX6_gatherKing_8 ?_
  refine q_get (v := .int (gI (M a2 2 (-1)))) C fX6_226 hk2 rfl dX6_gatherKing_9 (fun g4 => ?_)
  have h := h g4
  refine q_aload_n C 2 rfl rfl dX6_gatherKing_12 ?_
  refine q_get (v := .int (gI (M a2 3 (-1)))) C fX6_214 hk2 rfl dX6_gatherKing_13 (fun g5 => ?_)
  have h := h g5
  refine q_callVL (As := [.int (gI (M a2 1 (-1))), .int (gI (M a2 2 (-1))), .int (gI (M a2 3 (-1)))]) (st := []) C vX6_94 kX0_whiteTargets ⟨by decide, by decide⟩ ⟨by decide, by decide⟩ rfl r2 ⟨_, _, rfl⟩ (by decide) rfl (Nat.le_of_ble_eq_true rfl) (mX0_whiteTargets l D cy kd ln rh _ (M a0 1 (-1)) (M a2 1 (-1)) (M a2 2 (-1)) (M a2 3 (-1)) M r2 h) dX6_gatherKing_16 (fun c7 M6 h => ?_)
  refine q_lstore_n (lv' := [(3, .long (gL c7)), (0, .ref (gad a0)), (1, .ref (gad a1)), (2, .ref (gad a2))]) C rfl (by decide) rfl dX6_gatherKing_19 ?_
  refine q_lload_n C 0 rfl rfl dX6_gatherKing_20 ?_
  refine q_lstore (lv' := [(5, .long (gL c7)), (3, .long (gL c7)), (0, .ref (gad a0)), (1, .ref (gad a1)), (2, .ref (gad a2))]) C (by decide) rfl dX6_gatherKing_21 ?_
  refine q_lv (lv' := [(0, .ref (gad a0)), (1, .ref (gad a1)), (2, .ref (gad a2)), (5, .long (gL c7))]) [2, 3, 4, 0] rfl ?_
  obtain ⟨j23, h⟩ := h
  exact t23  j23 c7 M6 h
set_option maxHeartbeats 4000000 in
set_option maxRecDepth 100000 in
theorem mX6_gatherPromotions (l : Launch) (D : va_G) (cy : Nat → ClassId) (kd : gKd) (ln : gLn) (rh : gRh) (post : gM → Prop) (a0 : Int) (a1 : Int) (a2 : Int) (a3 : Int) (M : gM) (hk0 : kd a0 = 6) (hk1 : kd a1 = 1) (hk2 : kd a2 = 4) (h : wX6_gatherPromotions kd ln post a0 a1 a2 a3 M) : gMV l D cy yX6_gatherPromotions cX6_gatherPromotions 6 4 100 [.ref (gad a0), .ref (gad a1), .ref (gad a2), .int (gI a3)] kd ln rh M post := by
  refine gMV_of (own := RX6) (by decide) rfl (Nat.le_of_ble_eq_true rfl) ?_
  intro p e s m args below meth c A H0 Q C hret
  have t55 : ∀ (k3 : Int → gM → Prop), (∀ (x4 : Int), ∀ (M : gM), k3 x4 M → gW p l e (gRm 4 100) s m args below meth c D cy A H0 Q 6 kd ln rh 0 0 M 3 [(0, .ref (gad a0)), (1, .ref (gad a1)), (2, .ref (gad a2)), (3, .int (gI a3)), (4, .int (gI x4))] []) → ∀ (x4 : Int) (y0 : Int) (y1 : Int) (y2 : Int) (y3 : Int) (y4 : Int) (M : gM), wX6_gatherPromotions_55 kd ln post a0 a1 a2 a3 k3 x4 y0 y1 y2 y3 y4 M → gW p l e (gRm 4 100) s m args below meth c D cy A H0 Q 6 kd ln rh 0 0 M 55 [(0, .ref (gad a0)), (1, .ref (gad a1)), (2, .ref (gad a2)), (3, .int (gI a3)), (4, .int (gI x4))] [.int (gI y0), .int (gI y1), .int (gI y2), .int (gI y3), .ref (gad y4)] := by
    intro k3 hk3_ x4 y0 y1 y2 y3 y4 M h
    unfold wX6_gatherPromotions_55 at h
    obtain ⟨r12, h⟩ := h
    refine q_callVV (As := [.int (gI y3), .int (gI y2), .int (gI y1), .int (gI y0)]) (st := []) C vX6_236 kX1_add ⟨by decide, by decide⟩ ⟨by decide, by decide⟩ rfl r12 ⟨_, _, rfl⟩ (by decide) rfl (Nat.le_of_ble_eq_true rfl) (mX1_add l D cy kd ln rh _ y4 y3 y2 y1 y0 M r12 h) dX6_gatherPromotions_55 (fun M13 h => ?_)
    refine q_iinc (lv' := [(4, .int (gI (x4 + 1))), (0, .ref (gad a0)), (1, .ref (gad a1)), (2, .ref (gad a2)), (3, .int (gI a3))]) C 4 rfl (by decide) rfl dX6_gatherPromotions_58 ?_
    refine q_goto (tgt := 3) C (by decide) dX6_gatherPromotions_61 ?_
    refine q_lv (lv' := [(0, .ref (gad a0)), (1, .ref (gad a1)), (2, .ref (gad a2)), (3, .int (gI a3)), (4, .int (gI (x4 + 1)))]) [1, 2, 3, 4, 0] rfl ?_
    exact hk3_ (x4 + 1) M13 h
  have t20 : ∀ (k3 : Int → gM → Prop), (∀ (x4 : Int), ∀ (M : gM), k3 x4 M → gW p l e (gRm 4 100) s m args below meth c D cy A H0 Q 6 kd ln rh 0 0 M 3 [(0, .ref (gad a0)), (1, .ref (gad a1)), (2, .ref (gad a2)), (3, .int (gI a3)), (4, .int (gI x4))] []) → ∀ (x4 : Int) (y0 : Int) (M : gM), wX6_gatherPromotions_20 kd ln post a0 a1 a2 a3 k3 x4 y0 M → gW p l e (gRm 4 100) s m args below meth c D cy A H0 Q 6 kd ln rh 0 0 M 20 [(0, .ref (gad a0)), (1, .ref (gad a1)), (2, .ref (gad a2)), (3, .int (gI a3)), (4, .int (gI x4))] [.int (gI y0)] := by
    intro k3 hk3_ x4 y0 M h
    unfold wX6_gatherPromotions_20 at h
    refine q_istore (lv' := [(5, .int (gI y0)), (0, .ref (gad a0)), (1, .ref (gad a1)), (2, .ref (gad a2)), (3, .int (gI a3)), (4, .int (gI x4))]) C (by decide) rfl dX6_gatherPromotions_20 ?_
    refine q_aload_n C 2 rfl rfl dX6_gatherPromotions_22 ?_
    refine q_aload_n C 3 rfl rfl dX6_gatherPromotions_23 ?_
    refine q_get (v := .int (gI (M a2 3 (-1)))) C fX6_214 hk2 rfl dX6_gatherPromotions_24 (fun g4 => ?_)
    have h := h g4
    refine q_iload_n C 4 rfl rfl dX6_gatherPromotions_27 ?_
    refine q_iload C 5 rfl dX6_gatherPromotions_28 ?_
    refine q_iload C 0 rfl dX6_gatherPromotions_30 ?_
    obtain ⟨r5, h⟩ := h
    refine q_if_eq (tgt := 54) C r5 (by decide) dX6_gatherPromotions_32 (fun b6 => ?_) (fun b6 => ?_)
    · have h := h.1 b6
      refine q_iconst C dX6_gatherPromotions_54 ?_
      refine q_lv (lv' := [(0, .ref (gad a0)), (1, .ref (gad a1)), (2, .ref (gad a2)), (3, .int (gI a3)), (4, .int (gI x4))]) [1, 2, 3, 4, 5] rfl ?_
      exact t55 k3 hk3_ x4 (-1) x4 a3 (M a2 3 (-1)) a1 M h
    · have h := h.2 b6
      refine q_aload_n C 1 rfl rfl dX6_gatherPromotions_35 ?_
      refine q_iload C 5 rfl dX6_gatherPromotions_36 ?_
      refine q_aload_n C 3 rfl rfl dX6_gatherPromotions_38 ?_
      refine q_get (v := .int (gI (M a2 1 (-1)))) C fX6_211 hk2 rfl dX6_gatherPromotions_39 (fun g7 => ?_)
      have h := h g7
      refine q_aload_n C 3 rfl rfl dX6_gatherPromotions_42 ?_
      refine q_get (v := .int (gI (M a2 2 (-1)))) C fX6_226 hk2 rfl dX6_gatherPromotions_43 (fun g8 => ?_)
      have h := h g8
      refine q_iload_n C 4 rfl rfl dX6_gatherPromotions_46 ?_
      refine q_iconst C dX6_gatherPromotions_47 ?_
      refine q_callVI (As := [.int (gI x4), .int (gI (M a2 1 (-1))), .int (gI (M a2 2 (-1))), .int (gI a3), .int (gI 1)]) (st := [.int (gI x4), .int (gI a3), .int (gI (M a2 3 (-1))), .ref (gad a1)]) C vX6_232 kX6_lookUp ⟨by decide, by decide⟩ ⟨by decide, by decide⟩ rfl hk0 ⟨_, _, rfl⟩ (by decide) rfl (Nat.le_of_ble_eq_true rfl) (mX6_lookUp l D cy kd ln rh _ a0 x4 (M a2 1 (-1)) (M a2 2 (-1)) a3 1 M hk0 h) dX6_gatherPromotions_48 (fun c10 M9 g11 h => ?_)
      have h := h g11
      refine q_goto (tgt := 55) C (by decide) dX6_gatherPromotions_51 ?_
      refine q_lv (lv' := [(0, .ref (gad a0)), (1, .ref (gad a1)), (2, .ref (gad a2)), (3, .int (gI a3)), (4, .int (gI x4))]) [1, 2, 3, 4, 5] rfl ?_
      exact t55 k3 hk3_ x4 c10 x4 a3 (M a2 3 (-1)) a1 M9 h
  have t3 : ∀ (n : Nat) (x4 : Int) (M : gM), wX6_gatherPromotions_3 kd ln post a0 a1 a2 a3 n x4 M → gW p l e (gRm 4 100) s m args below meth c D cy A H0 Q 6 kd ln rh 0 0 M 3 [(0, .ref (gad a0)), (1, .ref (gad a1)), (2, .ref (gad a2)), (3, .int (gI a3)), (4, .int (gI x4))] [] := by
    intro n
    induction n with
    | zero => intro x4 M h; exact absurd h (by simp [wX6_gatherPromotions_3])
    | succ n ih =>
      intro x4 M h
      have hk3_ := ih
      rw [wX6_gatherPromotions_3] at h
      refine q_iload C 4 rfl dX6_gatherPromotions_3 ?_
      refine q_iconst C dX6_gatherPromotions_5 ?_
      obtain ⟨r1, h⟩ := h
      refine q_icmp_ge (tgt := 64) C r1 (show rng 4 by decide) (by decide) dX6_gatherPromotions_6 (fun b2 => ?_) (fun b2 => ?_)
      · have h := h.1 b2
        exact hret M _ _ dX6_gatherPromotions_64 h
      · have h := h.2 b2
        refine q_iload C 4 rfl dX6_gatherPromotions_9 ?_
        refine q_iconst C dX6_gatherPromotions_11 ?_
        refine q_icmp_gt (tgt := 19) C r1 (show rng 1 by decide) (by decide) dX6_gatherPromotions_12 (fun b3 => ?_) (fun b3 => ?_)
        · have h := h.1 b3
          refine q_iconst C dX6_gatherPromotions_19 ?_
          exact t20 (wX6_gatherPromotions_3 kd ln post a0 a1 a2 a3 n) hk3_ x4 0 M h
        · have h := h.2 b3
          refine q_iconst C dX6_gatherPromotions_15 ?_
          refine q_goto (tgt := 20) C (by decide) dX6_gatherPromotions_16 ?_
          exact t20 (wX6_gatherPromotions_3 kd ln post a0 a1 a2 a3 n) hk3_ x4 1 M h
  unfold wX6_gatherPromotions at h
  refine q_iconst C dX6_gatherPromotions_0 ?_
  refine q_istore (lv' := [(4, .int (gI 0)), (0, .ref (gad a0)), (1, .ref (gad a1)), (2, .ref (gad a2)), (3, .int (gI a3))]) C (by decide) rfl dX6_gatherPromotions_1 ?_
  refine q_lv (lv' := [(0, .ref (gad a0)), (1, .ref (gad a1)), (2, .ref (gad a2)), (3, .int (gI a3)), (4, .int (gI 0))]) [1, 2, 3, 4, 0] rfl ?_
  obtain ⟨j3, h⟩ := h
  exact t3  j3 0 M h
set_option maxHeartbeats 4000000 in
set_option maxRecDepth 100000 in
theorem mX6_gatherMan (l : Launch) (D : va_G) (cy : Nat → ClassId) (kd : gKd) (ln : gLn) (rh : gRh) (post : gM → Prop) (a0 : Int) (a1 : Int) (a2 : Int) (M : gM) (hk0 : kd a0 = 6) (hk1 : kd a1 = 1) (hk2 : kd a2 = 4) (h : wX6_gatherMan kd ln post a0 a1 a2 M) : gMV l D cy yX6_gatherMan cX6_gatherMan 8 5 125 [.ref (gad a0), .ref (gad a1), .ref (gad a2)] kd ln rh M post := by
  refine gMV_of (own := RX6) (by decide) rfl (Nat.le_of_ble_eq_true rfl) ?_
  intro p e s m args below meth c A H0 Q C hret
  have t102 : ∀ (k27 : BitVec 64 → gM → Prop), (∀ (x5 : BitVec 64), ∀ (M : gM), k27 x5 M → gW p l e (gRm 5 125) s m args below meth c D cy A H0 Q 8 kd ln rh 0 0 M 27 [(0, .ref (gad a0)), (1, .ref (gad a1)), (2, .ref (gad a2)), (5, .long (gL x5))] []) → ∀ (x5 : BitVec 64) (M : gM), wX6_gatherMan_102 kd ln post a0 a1 a2 k27 x5 M → gW p l e (gRm 5 125) s m args below meth c D cy A H0 Q 8 kd ln rh 0 0 M 102 [(0, .ref (gad a0)), (1, .ref (gad a1)), (2, .ref (gad a2)), (5, .long (gL x5))] [] := by
    intro k27 hk27_ x5 M h
    unfold wX6_gatherMan_102 at h
    refine q_lload C 3 rfl dX6_gatherMan_102 ?_
    refine q_lload C 3 rfl dX6_gatherMan_104 ?_
    refine q_lconst (b := 1) C rfl dX6_gatherMan_106 ?_
    refine q_lsub C dX6_gatherMan_107 ?_
    refine q_land C dX6_gatherMan_108 ?_
    refine q_topl (fun v25 ev25 => ?_)
    have h := h v25 ev25
    refine q_lstore (lv' := [(5, .long (gL v25)), (0, .ref (gad a0)), (1, .ref (gad a1)), (2, .ref (gad a2))]) C (by decide) rfl dX6_gatherMan_109 ?_
    refine q_goto (tgt := 27) C (by decide) dX6_gatherMan_111 ?_
    refine q_lv (lv' := [(0, .ref (gad a0)), (1, .ref (gad a1)), (2, .ref (gad a2)), (5, .long (gL v25))]) [1, 2, 3, 0] rfl ?_
    exact hk27_ v25 M h
  have t72 : ∀ (k27 : BitVec 64 → gM → Prop), (∀ (x5 : BitVec 64), ∀ (M : gM), k27 x5 M → gW p l e (gRm 5 125) s m args below meth c D cy A H0 Q 8 kd ln rh 0 0 M 27 [(0, .ref (gad a0)), (1, .ref (gad a1)), (2, .ref (gad a2)), (5, .long (gL x5))] []) → ∀ (x5 : BitVec 64) (x7 : Int) (M : gM), wX6_gatherMan_72 kd ln post a0 a1 a2 k27 x5 x7 M → gW p l e (gRm 5 125) s m args below meth c D cy A H0 Q 8 kd ln rh 0 0 M 72 [(0, .ref (gad a0)), (1, .ref (gad a1)), (2, .ref (gad a2)), (5, .long (gL x5)), (7, .int (gI x7))] [] := by
    intro k27 hk27_ x5 x7 M h
    unfold wX6_gatherMan_72 at h
    refine q_aload_n C 1 rfl rfl dX6_gatherMan_72 ?_
    refine q_aload_n C 2 rfl rfl dX6_gatherMan_73 ?_
    refine q_get (v := .int (gI (M a2 3 (-1)))) C fX6_214 hk2 rfl dX6_gatherMan_74 (fun g26 => ?_)
    have h := h g26
    refine q_iload C 4 rfl dX6_gatherMan_77 ?_
    refine q_iconst C dX6_gatherMan_79 ?_
    refine q_aload_n C 0 rfl rfl dX6_gatherMan_80 ?_
    refine q_aload_n C 2 rfl rfl dX6_gatherMan_81 ?_
    refine q_get (v := .int (gI (M a2 0 (-1)))) C fX6_223 hk2 rfl dX6_gatherMan_82 (fun g27 => ?_)
    have h := h g27
    refine q_aload_n C 2 rfl rfl dX6_gatherMan_85 ?_
    refine q_get (v := .int (gI (M a2 1 (-1)))) C fX6_211 hk2 rfl dX6_gatherMan_86 (fun g28 => ?_)
    have h := h g28
    refine q_aload_n C 2 rfl rfl dX6_gatherMan_89 ?_
    refine q_get (v := .int (gI (M a2 2 (-1)))) C fX6_226 hk2 rfl dX6_gatherMan_90 (fun g29 => ?_)
    have h := h g29
    refine q_iload C 4 rfl dX6_gatherMan_93 ?_
    refine q_iconst C dX6_gatherMan_95 ?_
    refine q_callVI (As := [.int (gI (M a2 0 (-1))), .int (gI (M a2 1 (-1))), .int (gI (M a2 2 (-1))), .int (gI x7), .int (gI 1)]) (st := [.int (gI (-1)), .int (gI x7), .int (gI (M a2 3 (-1))), .ref (gad a1)]) C vX6_232 kX6_lookUp ⟨by decide, by decide⟩ ⟨by decide, by decide⟩ rfl hk0 ⟨_, _, rfl⟩ (by decide) rfl (Nat.le_of_ble_eq_true rfl) (mX6_lookUp l D cy kd ln rh _ a0 (M a2 0 (-1)) (M a2 1 (-1)) (M a2 2 (-1)) x7 1 M hk0 h) dX6_gatherMan_96 (fun c31 M30 g32 h => ?_)
    have h := h g32
    refine q_callVV (As := [.int (gI (M a2 3 (-1))), .int (gI x7), .int (gI (-1)), .int (gI c31)]) (st := []) C vX6_236 kX1_add ⟨by decide, by decide⟩ ⟨by decide, by decide⟩ rfl hk1 ⟨_, _, rfl⟩ (by decide) rfl (Nat.le_of_ble_eq_true rfl) (mX1_add l D cy kd ln rh _ a1 (M a2 3 (-1)) x7 (-1) c31 M30 hk1 h) dX6_gatherMan_99 (fun M33 h => ?_)
    refine q_lv (lv' := [(0, .ref (gad a0)), (1, .ref (gad a1)), (2, .ref (gad a2)), (5, .long (gL x5))]) [0, 1, 2, 3] rfl ?_
    exact t102 k27 hk27_ x5 M33 h
  have t27 : ∀ (n : Nat) (x5 : BitVec 64) (M : gM), wX6_gatherMan_27 kd ln post a0 a1 a2 n x5 M → gW p l e (gRm 5 125) s m args below meth c D cy A H0 Q 8 kd ln rh 0 0 M 27 [(0, .ref (gad a0)), (1, .ref (gad a1)), (2, .ref (gad a2)), (5, .long (gL x5))] [] := by
    intro n
    induction n with
    | zero => intro x5 M h; exact absurd h (by simp [wX6_gatherMan_27])
    | succ n ih =>
      intro x5 M h
      have hk27_ := ih
      rw [wX6_gatherMan_27] at h
      refine q_lload C 3 rfl dX6_gatherMan_27 ?_
      refine q_lconst (b := 0) C rfl dX6_gatherMan_29 ?_
      refine q_lcmp C dX6_gatherMan_30 ?_
      refine q_if_eq (tgt := 114) C (rng_of _) (by decide) dX6_gatherMan_31 (fun b10 => ?_) (fun b10 => ?_)
      · have h := h.1 b10
        exact hret M _ _ dX6_gatherMan_114 h
      · have h := h.2 b10
        refine q_lload C 3 rfl dX6_gatherMan_34 ?_
        refine q_callSI (As := [.long (gL x5)]) (st := []) C vX6_229 kX6_lowest ⟨by decide, by decide⟩ ⟨by decide, by decide⟩ rfl rfl (Nat.le_of_ble_eq_true rfl) (mX6_lowest l D cy kd ln rh _ x5 M  h) dX6_gatherMan_36 (fun c12 M11 g13 h => ?_)
        have h := h g13
        refine q_istore (lv' := [(7, .int (gI c12)), (0, .ref (gad a0)), (1, .ref (gad a1)), (2, .ref (gad a2)), (5, .long (gL x5))]) C (by decide) rfl dX6_gatherMan_39 ?_
        refine q_aload_n C 3 rfl rfl dX6_gatherMan_41 ?_
        refine q_get (v := .int (gI (M11 a2 0 (-1)))) C fX6_223 hk2 rfl dX6_gatherMan_42 (fun g14 => ?_)
        have h := h g14
        refine q_iconst C dX6_gatherMan_45 ?_
        refine q_icmp_ne (tgt := 72) C g14 (show rng 2 by decide) (by decide) dX6_gatherMan_46 (fun b15 => ?_) (fun b15 => ?_)
        · have h := h.1 b15
          refine q_lv (lv' := [(0, .ref (gad a0)), (1, .ref (gad a1)), (2, .ref (gad a2)), (5, .long (gL x5)), (7, .int (gI c12))]) [1, 2, 3, 4, 0] rfl ?_
          exact t72 (wX6_gatherMan_27 kd ln post a0 a1 a2 n) hk27_ x5 c12 M11 h
        · have h := h.2 b15
          refine q_aload_n C 1 rfl rfl dX6_gatherMan_49 ?_
          refine q_get (v := gR (M11 a0 1 (-1))) C fX6_52 hk0 rfl dX6_gatherMan_50 (fun g16 => ?_)
          obtain ⟨r17, h⟩ := h
          refine q_nn r17 (by decide) ?_
          refine q_iload C 0 rfl dX6_gatherMan_53 ?_
          refine q_callVI (As := [.int (gI c12)]) (st := []) C vX6_90 kX0_isLastRank ⟨by decide, by decide⟩ ⟨by decide, by decide⟩ rfl r17 ⟨_, _, rfl⟩ (by decide) rfl (Nat.le_of_ble_eq_true rfl) (mX0_isLastRank l D cy kd ln rh _ (M11 a0 1 (-1)) c12 M11 r17 h) dX6_gatherMan_55 (fun c19 M18 g20 h => ?_)
          have h := h g20
          refine q_if_eq (tgt := 72) C g20 (by decide) dX6_gatherMan_58 (fun b21 => ?_) (fun b21 => ?_)
          · have h := h.1 b21
            refine q_lv (lv' := [(0, .ref (gad a0)), (1, .ref (gad a1)), (2, .ref (gad a2)), (5, .long (gL x5)), (7, .int (gI c12))]) [1, 2, 3, 4, 0] rfl ?_
            exact t72 (wX6_gatherMan_27 kd ln post a0 a1 a2 n) hk27_ x5 c12 M18 h
          · have h := h.2 b21
            refine q_aload_n C 1 rfl rfl dX6_gatherMan_61 ?_
            refine q_aload_n C 2 rfl rfl dX6_gatherMan_62 ?_
            refine q_aload_n C 3 rfl rfl dX6_gatherMan_63 ?_
            refine q_iload C 0 rfl dX6_gatherMan_64 ?_
            refine q_callVV (As := [.ref (gad a1), .ref (gad a2), .int (gI c12)]) (st := []) C vX6_240 kX6_gatherPromotions ⟨by decide, by decide⟩ ⟨by decide, by decide⟩ rfl hk0 ⟨_, _, rfl⟩ (by decide) rfl (Nat.le_of_ble_eq_true rfl) (mX6_gatherPromotions l D cy kd ln rh _ a0 a1 a2 c12 M18 hk0 hk1 hk2 h) dX6_gatherMan_66 (fun M22 h => ?_)
            refine q_goto (tgt := 102) C (by decide) dX6_gatherMan_69 ?_
            refine q_lv (lv' := [(0, .ref (gad a0)), (1, .ref (gad a1)), (2, .ref (gad a2)), (5, .long (gL x5))]) [1, 2, 3, 4] rfl ?_
            exact t102 (wX6_gatherMan_27 kd ln post a0 a1 a2 n) hk27_ x5 M22 h
  unfold wX6_gatherMan at h
  refine q_aload_n C 0 rfl rfl dX6_gatherMan_0 ?_
  refine q_get (v := gR (M a0 1 (-1))) C fX6_52 hk0 rfl dX6_gatherMan_1 (fun g1 => ?_)
  obtain ⟨r2, h⟩ := h
  refine q_nn r2 (by decide) ?_
  refine q_aload_n C 2 rfl rfl dX6_gatherMan_4 ?_
  refine q_get (v := .int (gI (M a2 0 (-1)))) C fX6_223 hk2 rfl dX6_gatherMan_5 (fun g3 => ?_)
  have h := h g3
  refine q_aload_n C 2 rfl rfl dX6_gatherMan_8 ?_
  refine q_get (v := .int (gI (M a2 1 (-1)))) C fX6_211 hk2 rfl dX6_gatherMan_9 (fun g4 => ?_)
  have h := h g4
  refine q_aload_n C 2 rfl rfl dX6_gatherMan_12 ?_
  refine q_get (v := .int (gI (M a2 2 (-1)))) C fX6_226 hk2 rfl dX6_gatherMan_13 (fun g5 => ?_)
  have h := h g5
  refine q_aload_n C 2 rfl rfl dX6_gatherMan_16 ?_
  refine q_get (v := .int (gI (M a2 3 (-1)))) C fX6_214 hk2 rfl dX6_gatherMan_17 (fun g6 => ?_)
  have h := h g6
  refine q_callVL (As := [.int (gI (M a2 0 (-1))), .int (gI (M a2 1 (-1))), .int (gI (M a2 2 (-1))), .int (gI (M a2 3 (-1)))]) (st := []) C vX6_84 kX0_manTargets ⟨by decide, by decide⟩ ⟨by decide, by decide⟩ rfl r2 ⟨_, _, rfl⟩ (by decide) rfl (Nat.le_of_ble_eq_true rfl) (mX0_manTargets l D cy kd ln rh _ (M a0 1 (-1)) (M a2 0 (-1)) (M a2 1 (-1)) (M a2 2 (-1)) (M a2 3 (-1)) M r2 h) dX6_gatherMan_20 (fun c8 M7 h => ?_)
  refine q_lstore_n (lv' := [(3, .long (gL c8)), (0, .ref (gad a0)), (1, .ref (gad a1)), (2, .ref (gad a2))]) C rfl (by decide) rfl dX6_gatherMan_23 ?_
  refine q_lload_n C 0 rfl rfl dX6_gatherMan_24 ?_
  refine q_lstore (lv' := [(5, .long (gL c8)), (3, .long (gL c8)), (0, .ref (gad a0)), (1, .ref (gad a1)), (2, .ref (gad a2))]) C (by decide) rfl dX6_gatherMan_25 ?_
  refine q_lv (lv' := [(0, .ref (gad a0)), (1, .ref (gad a1)), (2, .ref (gad a2)), (5, .long (gL c8))]) [2, 3, 4, 0] rfl ?_
  obtain ⟨j27, h⟩ := h
  exact t27  j27 c8 M7 h
set_option maxHeartbeats 4000000 in
set_option maxRecDepth 100000 in
theorem mX6_gather (l : Launch) (D : va_G) (cy : Nat → ClassId) (kd : gKd) (ln : gLn) (rh : gRh) (post : gM → Prop) (a0 : Int) (a1 : Int) (a2 : Int) (M : gM) (hk0 : kd a0 = 6) (hk1 : kd a1 = 1) (hk2 : kd a2 = 4) (h : wX6_gather kd ln post a0 a1 a2 M) : gMV l D cy yX6_gather cX6_gather 3 6 152 [.ref (gad a0), .ref (gad a1), .ref (gad a2)] kd ln rh M post := by
  refine gMV_of (own := RX6) (by decide) rfl (Nat.le_of_ble_eq_true rfl) ?_
  intro p e s m args below meth c A H0 Q C hret
  unfold wX6_gather at h
  refine q_aload_n C 1 rfl rfl dX6_gather_0 ?_
  refine q_iconst C dX6_gather_1 ?_
  refine q_put (x := 0) (ty := .int) C fX6_121 hk1 (fun _ _ _ q => by cases q; rfl) (congrArg (fun z => Value.int (gI z)) gu_s) rfl rfl (show rng 0 by decide) dX6_gather_2 ?_
  refine q_aload_n C 2 rfl rfl dX6_gather_5 ?_
  refine q_get (v := .int (gI ((gu M a1 0 (-1) 0) a2 4 (-1)))) C fX6_205 hk2 rfl dX6_gather_6 (fun g1 => ?_)
  have h := h g1
  refine q_iconst C dX6_gather_9 ?_
  refine q_icmp_ne (tgt := 22) C g1 (show rng 1 by decide) (by decide) dX6_gather_10 (fun b2 => ?_) (fun b2 => ?_)
  · have h := h.1 b2
    refine q_aload_n C 2 rfl rfl dX6_gather_22 ?_
    refine q_get (v := .int (gI ((gu M a1 0 (-1) 0) a2 1 (-1)))) C fX6_211 hk2 rfl dX6_gather_23 (fun g3 => ?_)
    have h := h g3
    refine q_aload_n C 2 rfl rfl dX6_gather_26 ?_
    refine q_get (v := .int (gI ((gu M a1 0 (-1) 0) a2 3 (-1)))) C fX6_214 hk2 rfl dX6_gather_27 (fun g4 => ?_)
    have h := h g4
    refine q_icmp_ge (tgt := 48) C g3 g4 (by decide) dX6_gather_30 (fun b5 => ?_) (fun b5 => ?_)
    · have h := h.1 b5
      refine q_aload_n C 0 rfl rfl dX6_gather_48 ?_
      refine q_aload_n C 1 rfl rfl dX6_gather_49 ?_
      refine q_aload_n C 2 rfl rfl dX6_gather_50 ?_
      refine q_callVV (As := [.ref (gad a1), .ref (gad a2)]) (st := []) C vX6_220 kX6_gatherMan ⟨by decide, by decide⟩ ⟨by decide, by decide⟩ rfl hk0 ⟨_, _, rfl⟩ (by decide) rfl (Nat.le_of_ble_eq_true rfl) (mX6_gatherMan l D cy kd ln rh _ a0 a1 a2 (gu M a1 0 (-1) 0) hk0 hk1 hk2 h) dX6_gather_51 (fun M6 h => ?_)
      refine q_aload_n C 0 rfl rfl dX6_gather_54 ?_
      refine q_aload_n C 1 rfl rfl dX6_gather_55 ?_
      refine q_aload_n C 2 rfl rfl dX6_gather_56 ?_
      refine q_callVV (As := [.ref (gad a1), .ref (gad a2)]) (st := []) C vX6_217 kX6_gatherKing ⟨by decide, by decide⟩ ⟨by decide, by decide⟩ rfl hk0 ⟨_, _, rfl⟩ (by decide) rfl (Nat.le_of_ble_eq_true rfl) (mX6_gatherKing l D cy kd ln rh _ a0 a1 a2 M6 hk0 hk1 hk2 h) dX6_gather_57 (fun M9 h => ?_)
      exact hret M9 _ _ dX6_gather_60 h
    · have h := h.2 b5
      refine q_aload_n C 0 rfl rfl dX6_gather_33 ?_
      refine q_aload_n C 1 rfl rfl dX6_gather_34 ?_
      refine q_aload_n C 2 rfl rfl dX6_gather_35 ?_
      refine q_callVV (As := [.ref (gad a1), .ref (gad a2)]) (st := []) C vX6_217 kX6_gatherKing ⟨by decide, by decide⟩ ⟨by decide, by decide⟩ rfl hk0 ⟨_, _, rfl⟩ (by decide) rfl (Nat.le_of_ble_eq_true rfl) (mX6_gatherKing l D cy kd ln rh _ a0 a1 a2 (gu M a1 0 (-1) 0) hk0 hk1 hk2 h) dX6_gather_36 (fun M12 h => ?_)
      refine q_aload_n C 0 rfl rfl dX6_gather_39 ?_
      refine q_aload_n C 1 rfl rfl dX6_gather_40 ?_
      refine q_aload_n C 2 rfl rfl dX6_gather_41 ?_
      refine q_callVV (As := [.ref (gad a1), .ref (gad a2)]) (st := []) C vX6_220 kX6_gatherMan ⟨by decide, by decide⟩ ⟨by decide, by decide⟩ rfl hk0 ⟨_, _, rfl⟩ (by decide) rfl (Nat.le_of_ble_eq_true rfl) (mX6_gatherMan l D cy kd ln rh _ a0 a1 a2 M12 hk0 hk1 hk2 h) dX6_gather_42 (fun M15 h => ?_)
      refine q_goto (tgt := 60) C (by decide) dX6_gather_45 ?_
      exact hret M15 _ _ dX6_gather_60 h
  · have h := h.2 b2
    refine q_aload_n C 0 rfl rfl dX6_gather_13 ?_
    refine q_aload_n C 1 rfl rfl dX6_gather_14 ?_
    refine q_aload_n C 2 rfl rfl dX6_gather_15 ?_
    refine q_callVV (As := [.ref (gad a1), .ref (gad a2)]) (st := []) C vX6_208 kX6_gatherBlack ⟨by decide, by decide⟩ ⟨by decide, by decide⟩ rfl hk0 ⟨_, _, rfl⟩ (by decide) rfl (Nat.le_of_ble_eq_true rfl) (mX6_gatherBlack l D cy kd ln rh _ a0 a1 a2 (gu M a1 0 (-1) 0) hk0 hk1 hk2 h) dX6_gather_16 (fun M18 h => ?_)
    refine q_goto (tgt := 60) C (by decide) dX6_gather_19 ?_
    exact hret M18 _ _ dX6_gather_60 h
set_option maxHeartbeats 4000000 in
set_option maxRecDepth 100000 in
theorem mX6_goalAfter (l : Launch) (D : va_G) (cy : Nat → ClassId) (kd : gKd) (ln : gLn) (rh : gRh) (post : Int → gM → Prop) (a0 : Int) (M : gM)  (h : wX6_goalAfter kd ln post a0 M) : gMI l D cy yX6_goalAfter cX6_goalAfter 1 .int 0 0 [.int (gI a0)] kd ln rh M post := by
  refine gMI_of (own := RX6) (by decide) rfl (Nat.le_of_ble_eq_true rfl) ?_
  intro p e s m args below meth c A H0 Q C hret
  unfold wX6_goalAfter at h
  refine q_iload_n C 0 rfl rfl dX6_goalAfter_0 ?_
  refine q_iconst C dX6_goalAfter_1 ?_
  obtain ⟨r1, h⟩ := h
  refine q_icmp_ne (tgt := 9) C r1 (show rng (-1) by decide) (by decide) dX6_goalAfter_2 (fun b2 => ?_) (fun b2 => ?_)
  · have h := h.1 b2
    refine q_iload_n C 0 rfl rfl dX6_goalAfter_9 ?_
    refine q_iconst C dX6_goalAfter_10 ?_
    refine q_isub C dX6_goalAfter_11 ?_
    obtain ⟨r3, h⟩ := h
    exact hret (a0 - 1) M _ _ dX6_goalAfter_12 r3 h
  · have h := h.2 b2
    refine q_iconst C dX6_goalAfter_5 ?_
    refine q_goto (tgt := 12) C (by decide) dX6_goalAfter_6 ?_
    exact hret (-1) M _ _ dX6_goalAfter_12 (show rng (-1) by decide) h
set_option maxHeartbeats 4000000 in
set_option maxRecDepth 100000 in
theorem mX6_best (l : Launch) (D : va_G) (cy : Nat → ClassId) (kd : gKd) (ln : gLn) (rh : gRh) (post : Int → gM → Prop) (px : gM → Prop) (a0 : Int) (a1 : Int) (a2 : Int) (a3 : Int) (a4 : Int) (a5 : Int) (M : gM) (hst : l.stackTraces = false) (hk0 : kd a0 = 6) (h : wX6_best kd ln post px a0 a1 a2 a3 a4 a5 M) : gTI l D cy yX6_best cX6_best 7 .int 8 174 [.ref (gad a0), .int (gI a1), .int (gI a2), .int (gI a3), .int (gI a4), .int (gI a5)] kd ln rh M post px := by
  refine gTI_of (own := RX6) (by decide) rfl (Nat.le_of_ble_eq_true rfl) hst rfl ?_
  intro p e s m args below meth c A H0 Q C hret hthr hexc
  unfold wX6_best at h
  refine q_aload_n C 0 rfl rfl dX6_best_0 ?_
  refine q_iload_n C 1 rfl rfl dX6_best_1 ?_
  refine q_iload_n C 2 rfl rfl dX6_best_2 ?_
  refine q_iload_n C 3 rfl rfl dX6_best_3 ?_
  refine q_iload C 4 rfl dX6_best_4 ?_
  refine q_iload C 5 rfl dX6_best_6 ?_
  refine q_callTR (As := [.int (gI a1), .int (gI a2), .int (gI a3), .int (gI a4), .int (gI a5)]) (st := []) C vX6_98 kX6_demandTable ⟨by decide, by decide⟩ ⟨by decide, by decide⟩ rfl hk0 ⟨_, _, rfl⟩ (by decide) rfl (Nat.le_of_ble_eq_true rfl) (mX6_demandTable l D cy kd ln rh _ _ a0 a1 a2 a3 a4 a5 M hst hk0 h) dX6_best_8 (fun M9 h => hexc M9 _ _ _ _ _ (by decide) (by decide) h) (fun c2 M1 h => ?_)
  refine q_iload_n C 2 rfl rfl dX6_best_11 ?_
  refine q_iload_n C 3 rfl rfl dX6_best_12 ?_
  refine q_iload C 4 rfl dX6_best_13 ?_
  refine q_iload C 5 rfl dX6_best_15 ?_
  obtain ⟨r4, h⟩ := h
  refine q_callVI (As := [.int (gI a2), .int (gI a3), .int (gI a4), .int (gI a5)]) (st := []) C vX6_102 kX5_look ⟨by decide, by decide⟩ ⟨by decide, by decide⟩ rfl r4 ⟨_, _, rfl⟩ (by decide) rfl (Nat.le_of_ble_eq_true rfl) (mX5_look l D cy kd ln rh _ c2 a2 a3 a4 a5 M1 r4 h) dX6_best_17 (fun c6 M5 g7 h => ?_)
  have h := h g7
  refine q_istore (lv' := [(6, .int (gI c6)), (0, .ref (gad a0)), (1, .int (gI a1)), (2, .int (gI a2)), (3, .int (gI a3)), (4, .int (gI a4)), (5, .int (gI a5))]) C (by decide) rfl dX6_best_20 ?_
  refine q_aload_n C 1 rfl rfl dX6_best_22 ?_
  refine q_get (v := gR (M5 a0 4 (-1))) C fX6_29 hk0 rfl dX6_best_23 (fun g8 => ?_)
  obtain ⟨r9, h⟩ := h
  refine q_nn r9 (by decide) ?_
  refine q_iload_n C 2 rfl rfl dX6_best_26 ?_
  refine q_iload_n C 3 rfl rfl dX6_best_27 ?_
  refine q_iload_n C 4 rfl rfl dX6_best_28 ?_
  refine q_iload C 5 rfl dX6_best_29 ?_
  refine q_iload C 6 rfl dX6_best_31 ?_
  refine q_callVV (As := [.int (gI a1), .int (gI a2), .int (gI a3), .int (gI a4), .int (gI a5)]) (st := []) C vX6_106 kX4_set ⟨by decide, by decide⟩ ⟨by decide, by decide⟩ rfl r9 ⟨_, _, rfl⟩ (by decide) rfl (Nat.le_of_ble_eq_true rfl) (mX4_set l D cy kd ln rh _ (M5 a0 4 (-1)) a1 a2 a3 a4 a5 M5 r9 h) dX6_best_33 (fun M10 h => ?_)
  refine q_aload_n C 1 rfl rfl dX6_best_36 ?_
  refine q_aload_n C 1 rfl rfl dX6_best_37 ?_
  refine q_get (v := gR (M10 a0 3 (-1))) C fX6_22 hk0 rfl dX6_best_38 (fun g13 => ?_)
  obtain ⟨r14, h⟩ := h
  refine q_nn r14 (by decide) ?_
  refine q_aload_n C 1 rfl rfl dX6_best_41 ?_
  refine q_get (v := gR (M10 a0 4 (-1))) C fX6_29 hk0 rfl dX6_best_42 (fun g15 => ?_)
  obtain ⟨r16, h⟩ := h
  refine q_nn r16 (by decide) ?_
  refine q_callVV (As := [.ref (gad (M10 a0 3 (-1))), .ref (gad (M10 a0 4 (-1)))]) (st := []) C vX6_110 kX6_gather ⟨by decide, by decide⟩ ⟨by decide, by decide⟩ rfl hk0 ⟨_, _, rfl⟩ (by decide) rfl (Nat.le_of_ble_eq_true rfl) (mX6_gather l D cy kd ln rh _ a0 (M10 a0 3 (-1)) (M10 a0 4 (-1)) M10 hk0 r14 r16 h) dX6_best_45 (fun M17 h => ?_)
  refine q_aload_n C 1 rfl rfl dX6_best_48 ?_
  refine q_get (v := gR (M17 a0 3 (-1))) C fX6_22 hk0 rfl dX6_best_49 (fun g20 => ?_)
  obtain ⟨r21, h⟩ := h
  refine q_nn r21 (by decide) ?_
  refine q_iload C 0 rfl dX6_best_52 ?_
  refine q_callSI (As := [.int (gI c6)]) (st := [.ref (gad (M17 a0 3 (-1)))]) C vX6_114 kX6_goalAfter ⟨by decide, by decide⟩ ⟨by decide, by decide⟩ rfl rfl (Nat.le_of_ble_eq_true rfl) (mX6_goalAfter l D cy kd ln rh _ c6 M17  h) dX6_best_54 (fun c23 M22 g24 h => ?_)
  have h := h g24
  refine q_callVV (As := [.int (gI c23)]) (st := []) C vX6_118 kX1_keep ⟨by decide, by decide⟩ ⟨by decide, by decide⟩ rfl r21 ⟨_, _, rfl⟩ (by decide) rfl (Nat.le_of_ble_eq_true rfl) (mX1_keep l D cy kd ln rh _ (M17 a0 3 (-1)) c23 M22 r21 h) dX6_best_57 (fun M25 h => ?_)
  refine q_aload_n C 1 rfl rfl dX6_best_60 ?_
  refine q_get (v := gR (M25 a0 3 (-1))) C fX6_22 hk0 rfl dX6_best_61 (fun g28 => ?_)
  obtain ⟨r29, h⟩ := h
  refine q_nn r29 (by decide) ?_
  refine q_get (v := .int (gI (M25 (M25 a0 3 (-1)) 0 (-1)))) C fX6_121 r29 rfl dX6_best_64 (fun g30 => ?_)
  have h := h g30
  exact hret (M25 (M25 a0 3 (-1)) 0 (-1)) M25 _ _ 1 6 (by decide) (by decide) dX6_best_67 g30 h
set_option maxHeartbeats 4000000 in
set_option maxRecDepth 100000 in
theorem mX6_demandTurn (l : Launch) (D : va_G) (cy : Nat → ClassId) (kd : gKd) (ln : gLn) (rh : gRh) (post : Int → gM → Prop) (px : gM → Prop) (a0 : Int) (a1 : Int) (a2 : Int) (M : gM) (hst : l.stackTraces = false) (hk0 : kd a0 = 6) (h : wX6_demandTurn kd ln post px a0 a1 a2 M) : gTR l D cy yX6_demandTurn cX6_demandTurn 3 RX5 7 118 [.ref (gad a0), .int (gI a1), .int (gI a2)] kd ln rh M post px := by
  refine gTR_of (own := RX6) (by decide) rfl (Nat.le_of_ble_eq_true rfl) hst rfl ?_
  intro p e s m args below meth c A H0 Q C hret hthr hexc
  have t19 : ∀ (M : gM), wX6_demandTurn_19 kd ln post px a0 a1 a2  M → gW p l e (gRt 7 118) s m args below meth c D cy A H0 Q 3 kd ln rh 0 0 M 19 [(0, .ref (gad a0)), (1, .int (gI a1))] [] := by
    intro   M h
    unfold wX6_demandTurn_19 at h
    refine q_aload_n C 0 rfl rfl dX6_demandTurn_19 ?_
    refine q_iload_n C 1 rfl rfl dX6_demandTurn_20 ?_
    refine q_callTR (As := [.int (gI a1)]) (st := []) C vX6_138 kX6_demandMade ⟨by decide, by decide⟩ ⟨by decide, by decide⟩ rfl hk0 ⟨_, _, rfl⟩ (by decide) rfl (Nat.le_of_ble_eq_true rfl) (mX6_demandMade l D cy kd ln rh _ _ a0 a1 M hst hk0 h) dX6_demandTurn_21 (fun M9 h => hexc M9 _ _ _ _ _ (by decide) (by decide) h) (fun c5 M4 h => ?_)
    exact hret c5 M4 _ _ 1 6 (by decide) (by decide) dX6_demandTurn_24 h
  unfold wX6_demandTurn at h
  refine q_iload_n C 2 rfl rfl dX6_demandTurn_0 ?_
  obtain ⟨r1, h⟩ := h
  refine q_if_eq (tgt := 19) C r1 (by decide) dX6_demandTurn_1 (fun b2 => ?_) (fun b2 => ?_)
  · have h := h.1 b2
    refine q_lv (lv' := [(0, .ref (gad a0)), (1, .int (gI a1))]) [0, 1] rfl ?_
    exact t19  M h
  · have h := h.2 b2
    refine q_iload_n C 2 rfl rfl dX6_demandTurn_4 ?_
    refine q_iconst C dX6_demandTurn_5 ?_
    refine q_icmp_eq (tgt := 19) C r1 (show rng 1 by decide) (by decide) dX6_demandTurn_6 (fun b3 => ?_) (fun b3 => ?_)
    · have h := h.1 b3
      refine q_lv (lv' := [(0, .ref (gad a0)), (1, .int (gI a1))]) [0, 1] rfl ?_
      exact t19  M h
    · have h := h.2 b3
      exact hthr (201, "no such turn", 24) M _ _ _ (by decide) dX6_demandTurn_9 dX6_demandTurn_12 dX6_demandTurn_13 dX6_demandTurn_15 dX6_demandTurn_18 (by decide) (Nat.le_of_ble_eq_true rfl) h
