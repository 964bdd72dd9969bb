set_option maxHeartbeats 4000000 in
set_option maxRecDepth 100000 in
theorem mX0_pawnSources (l : Launch) (D : va_G) (cy : Nat → ClassId) (kd : gKd) (ln : gLn) (rh : gRh) (post : BitVec 64 → gM → Prop) (a0 : Int) (a1 : Int) (a2 : Int) (a3 : Int) (M : gM) (hk0 : kd a0 = 0) (h : wX0_pawnSources kd ln post a0 a1 a2 a3 M) : gML l D cy yX0_pawnSources cX0_pawnSources 7 1 20 [.ref (gad a0), .int (gI a1), .int (gI a2), .int (gI a3)] kd ln rh M post := by
  refine gML_of (own := RX0) (by decide) rfl (Nat.le_of_ble_eq_true rfl) ?_
  intro p e s m args below meth c A H0 Q C hret
  have t77 : ∀ (x4 : Int) (x5 : Int) (y0 : Int) (M : gM), wX0_pawnSources_77 kd ln post a0 a1 a2 a3 x4 x5 y0 M → gW p l e (gRm 1 20) s m args below meth c D cy A H0 Q 7 kd ln rh 0 0 M 77 [(4, .int (gI x4)), (5, .int (gI x5))] [.int (gI y0)] := by
    intro  x4 x5 y0 M h
    unfold wX0_pawnSources_77 at h
    refine q_istore (lv' := [(6, .int (gI y0)), (4, .int (gI x4)), (5, .int (gI x5))]) C (by decide) rfl dX0_pawnSources_77 ?_
    refine q_iload C 0 rfl dX0_pawnSources_79 ?_
    obtain ⟨r20, h⟩ := h
    refine q_if_eq (tgt := 98) C r20 (by decide) dX0_pawnSources_81 (fun b21 => ?_) (fun b21 => ?_)
    · have h := h.1 b21
      refine q_iload C 1 rfl dX0_pawnSources_98 ?_
      refine q_callNL (As := [.int (gI x4)]) (st := []) C vX0_62 kX6_bit ⟨by decide, by decide⟩ ⟨by decide, by decide⟩ rfl rfl (Nat.le_of_ble_eq_true rfl) (mX6_bit l D cy kd ln rh _ x4 M  h) dX0_pawnSources_100 (fun c23 M22 h => ?_)
      exact hret c23 M22 _ _ dX0_pawnSources_103 h
    · have h := h.2 b21
      refine q_iload C 1 rfl dX0_pawnSources_84 ?_
      refine q_callNL (As := [.int (gI x4)]) (st := []) C vX0_62 kX6_bit ⟨by decide, by decide⟩ ⟨by decide, by decide⟩ rfl rfl (Nat.le_of_ble_eq_true rfl) (mX6_bit l D cy kd ln rh _ x4 M  h) dX0_pawnSources_86 (fun c26 M25 h => ?_)
      refine q_iload C 2 rfl dX0_pawnSources_89 ?_
      refine q_callNL (As := [.int (gI x5)]) (st := [.long (gL c26)]) C vX0_62 kX6_bit ⟨by decide, by decide⟩ ⟨by decide, by decide⟩ rfl rfl (Nat.le_of_ble_eq_true rfl) (mX6_bit l D cy kd ln rh _ x5 M25  h) dX0_pawnSources_91 (fun c29 M28 h => ?_)
      refine q_lor C dX0_pawnSources_94 ?_
      refine q_goto (tgt := 103) C (by decide) dX0_pawnSources_95 ?_
      exact hret (c26 ||| c29) M28 _ _ dX0_pawnSources_103 h
  have t76 : ∀ (x4 : Int) (x5 : Int) (M : gM), wX0_pawnSources_76 kd ln post a0 a1 a2 a3 x4 x5 M → gW p l e (gRm 1 20) s m args below meth c D cy A H0 Q 7 kd ln rh 0 0 M 76 [(4, .int (gI x4)), (5, .int (gI x5))] [] := by
    intro  x4 x5 M h
    unfold wX0_pawnSources_76 at h
    refine q_iconst C dX0_pawnSources_76 ?_
    exact t77  x4 x5 0 M h
  unfold wX0_pawnSources at h
  refine q_iload_n C 3 rfl rfl dX0_pawnSources_0 ?_
  refine q_aload_n C 0 rfl rfl dX0_pawnSources_1 ?_
  refine q_get (v := .int (gI (M a0 0 (-1)))) C fX0_17 hk0 rfl dX0_pawnSources_2 (fun g1 => ?_)
  have h := h g1
  refine q_isub C dX0_pawnSources_5 ?_
  refine q_topi (fun v2 ev2 => ?_)
  have h := h v2 ev2
  refine q_istore (lv' := [(4, .int (gI v2)), (0, .ref (gad a0)), (1, .int (gI a1)), (2, .int (gI a2)), (3, .int (gI a3))]) C (by decide) rfl dX0_pawnSources_6 ?_
  refine q_iload C 0 rfl dX0_pawnSources_8 ?_
  refine q_aload_n C 1 rfl rfl dX0_pawnSources_10 ?_
  refine q_get (v := .int (gI (M a0 0 (-1)))) C fX0_17 hk0 rfl dX0_pawnSources_11 (fun g3 => ?_)
  obtain ⟨r4, h⟩ := h
  refine q_icmp_lt (tgt := 29) C r4 g1 (by decide) dX0_pawnSources_14 (fun b5 => ?_) (fun b5 => ?_)
  · have h := h.1 b5
    refine q_lconst (b := 0) C rfl dX0_pawnSources_29 ?_
    exact hret (0 : BitVec 64) M _ _ dX0_pawnSources_30 h
  · have h := h.2 b5
    refine q_iload C 0 rfl dX0_pawnSources_17 ?_
    refine q_iload_n C 2 rfl rfl dX0_pawnSources_19 ?_
    obtain ⟨r6, h⟩ := h
    refine q_icmp_eq (tgt := 29) C r4 r6 (by decide) dX0_pawnSources_20 (fun b7 => ?_) (fun b7 => ?_)
    · have h := h.1 b7
      refine q_lconst (b := 0) C rfl dX0_pawnSources_29 ?_
      exact hret (0 : BitVec 64) M _ _ dX0_pawnSources_30 h
    · have h := h.2 b7
      refine q_iload C 0 rfl dX0_pawnSources_23 ?_
      refine q_iload_n C 3 rfl rfl dX0_pawnSources_25 ?_
      obtain ⟨r8, h⟩ := h
      refine q_icmp_ne (tgt := 31) C r4 r8 (by decide) dX0_pawnSources_26 (fun b9 => ?_) (fun b9 => ?_)
      · have h := h.1 b9
        refine q_iload C 0 rfl dX0_pawnSources_31 ?_
        refine q_aload_n C 1 rfl rfl dX0_pawnSources_33 ?_
        refine q_get (v := .int (gI (M a0 0 (-1)))) C fX0_17 hk0 rfl dX0_pawnSources_34 (fun g10 => ?_)
        refine q_isub C dX0_pawnSources_37 ?_
        refine q_topi (fun v11 ev11 => ?_)
        have h := h v11 ev11
        refine q_istore (lv' := [(5, .int (gI v11)), (4, .int (gI v2)), (0, .ref (gad a0)), (1, .int (gI a1)), (2, .int (gI a2)), (3, .int (gI a3))]) C (by decide) rfl dX0_pawnSources_38 ?_
        refine q_iload C 0 rfl dX0_pawnSources_40 ?_
        refine q_aload_n C 2 rfl rfl dX0_pawnSources_42 ?_
        refine q_get (v := .int (gI (M a0 0 (-1)))) C fX0_17 hk0 rfl dX0_pawnSources_43 (fun g12 => ?_)
        obtain ⟨r13, h⟩ := h
        refine q_icmp_lt (tgt := 76) C r13 g1 (by decide) dX0_pawnSources_46 (fun b14 => ?_) (fun b14 => ?_)
        · have h := h.1 b14
          refine q_lv (lv' := [(4, .int (gI v2)), (5, .int (gI v11))]) [1, 0] rfl ?_
          exact t76  v2 v11 M h
        · have h := h.2 b14
          refine q_iload C 0 rfl dX0_pawnSources_49 ?_
          refine q_iconst C dX0_pawnSources_51 ?_
          refine q_aload_n C 2 rfl rfl dX0_pawnSources_52 ?_
          refine q_get (v := .int (gI (M a0 0 (-1)))) C fX0_17 hk0 rfl dX0_pawnSources_53 (fun g15 => ?_)
          refine q_imul C dX0_pawnSources_56 ?_
          obtain ⟨r16, h⟩ := h
          refine q_icmp_ge (tgt := 76) C r13 r16 (by decide) dX0_pawnSources_57 (fun b17 => ?_) (fun b17 => ?_)
          · have h := h.1 b17
            refine q_lv (lv' := [(4, .int (gI v2)), (5, .int (gI v11))]) [1, 0] rfl ?_
            exact t76  v2 v11 M h
          · have h := h.2 b17
            refine q_iload C 0 rfl dX0_pawnSources_60 ?_
            refine q_iload_n C 3 rfl rfl dX0_pawnSources_62 ?_
            refine q_icmp_eq (tgt := 76) C r13 r6 (by decide) dX0_pawnSources_63 (fun b18 => ?_) (fun b18 => ?_)
            · have h := h.1 b18
              refine q_lv (lv' := [(4, .int (gI v2)), (5, .int (gI v11))]) [1, 0] rfl ?_
              exact t76  v2 v11 M h
            · have h := h.2 b18
              refine q_iload C 0 rfl dX0_pawnSources_66 ?_
              refine q_iload_n C 4 rfl rfl dX0_pawnSources_68 ?_
              refine q_icmp_eq (tgt := 76) C r13 r8 (by decide) dX0_pawnSources_69 (fun b19 => ?_) (fun b19 => ?_)
              · have h := h.1 b19
                refine q_lv (lv' := [(4, .int (gI v2)), (5, .int (gI v11))]) [1, 0] rfl ?_
                exact t76  v2 v11 M h
              · have h := h.2 b19
                refine q_iconst C dX0_pawnSources_72 ?_
                refine q_goto (tgt := 77) C (by decide) dX0_pawnSources_73 ?_
                refine q_lv (lv' := [(4, .int (gI v2)), (5, .int (gI v11))]) [1, 0] rfl ?_
                exact t77  v2 v11 1 M h
      · have h := h.2 b9
        refine q_lconst (b := 0) C rfl dX0_pawnSources_29 ?_
        exact hret (0 : BitVec 64) M _ _ dX0_pawnSources_30 h
set_option maxHeartbeats 4000000 in
set_option maxRecDepth 100000 in
theorem mX0_whiteTargets (l : Launch) (D : va_G) (cy : Nat → ClassId) (kd : gKd) (ln : gLn) (rh : gRh) (post : BitVec 64 → gM → Prop) (a0 : Int) (a1 : Int) (a2 : Int) (a3 : Int) (M : gM) (hk0 : kd a0 = 0) (h : wX0_whiteTargets kd ln post a0 a1 a2 a3 M) : gML l D cy yX0_whiteTargets cX0_whiteTargets 4 1 20 [.ref (gad a0), .int (gI a1), .int (gI a2), .int (gI a3)] kd ln rh M post := by
  refine gML_of (own := RX0) (by decide) rfl (Nat.le_of_ble_eq_true rfl) ?_
  intro p e s m args below meth c A H0 Q C hret
  unfold wX0_whiteTargets at h
  refine q_aload_n C 0 rfl rfl dX0_whiteTargets_0 ?_
  obtain ⟨r1, h⟩ := h
  refine q_get (v := .ref (rh a0 6)) C fX0_31 hk0 (if_neg (Int.not_lt.mpr r1)) dX0_whiteTargets_1 (fun g2 => ?_)
  refine q_iload_n C 1 rfl rfl dX0_whiteTargets_4 ?_
  obtain ⟨r3, h⟩ := h
  refine q_lald C hk0 rfl (fun _ q => q) r3 dX0_whiteTargets_5 (fun g4 => ?_)
  have h := h g4
  refine q_aload_n C 0 rfl rfl dX0_whiteTargets_6 ?_
  refine q_get (v := .ref (rh a0 6)) C fX0_31 hk0 (if_neg (Int.not_lt.mpr r1)) dX0_whiteTargets_7 (fun g5 => ?_)
  refine q_iload_n C 2 rfl rfl dX0_whiteTargets_10 ?_
  obtain ⟨r6, h⟩ := h
  refine q_lald C hk0 rfl (fun _ q => q) r6 dX0_whiteTargets_11 (fun g7 => ?_)
  have h := h g7
  refine q_ldc2 (b := 18446744073709551615) C nX0_92 (by decide) dX0_whiteTargets_12 ?_
  refine q_lxor C dX0_whiteTargets_15 ?_
  refine q_land C dX0_whiteTargets_16 ?_
  refine q_iload_n C 2 rfl rfl dX0_whiteTargets_17 ?_
  refine q_callNL (As := [.int (gI a2)]) (st := [.long (gL ((BitVec.ofInt 64 (M a0 6 a1)) &&& ((BitVec.ofInt 64 (M a0 6 a2)) ^^^ (18446744073709551615 : BitVec 64))))]) C vX0_62 kX6_bit ⟨by decide, by decide⟩ ⟨by decide, by decide⟩ rfl rfl (Nat.le_of_ble_eq_true rfl) (mX6_bit l D cy kd ln rh _ a2 M  h) dX0_whiteTargets_18 (fun c9 M8 h => ?_)
  refine q_ldc2 (b := 18446744073709551615) C nX0_92 (by decide) dX0_whiteTargets_21 ?_
  refine q_lxor C dX0_whiteTargets_24 ?_
  refine q_land C dX0_whiteTargets_25 ?_
  refine q_iload_n C 3 rfl rfl dX0_whiteTargets_26 ?_
  refine q_callNL (As := [.int (gI a3)]) (st := [.long (gL (((BitVec.ofInt 64 (M a0 6 a1)) &&& ((BitVec.ofInt 64 (M a0 6 a2)) ^^^ (18446744073709551615 : BitVec 64))) &&& (c9 ^^^ (18446744073709551615 : BitVec 64))))]) C vX0_62 kX6_bit ⟨by decide, by decide⟩ ⟨by decide, by decide⟩ rfl rfl (Nat.le_of_ble_eq_true rfl) (mX6_bit l D cy kd ln rh _ a3 M8  h) dX0_whiteTargets_27 (fun c12 M11 h => ?_)
  refine q_ldc2 (b := 18446744073709551615) C nX0_92 (by decide) dX0_whiteTargets_30 ?_
  refine q_lxor C dX0_whiteTargets_33 ?_
  refine q_land C dX0_whiteTargets_34 ?_
  exact hret ((((BitVec.ofInt 64 (M a0 6 a1)) &&& ((BitVec.ofInt 64 (M a0 6 a2)) ^^^ (18446744073709551615 : BitVec 64))) &&& (c9 ^^^ (18446744073709551615 : BitVec 64))) &&& (c12 ^^^ (18446744073709551615 : BitVec 64))) M11 _ _ dX0_whiteTargets_35 h
set_option maxHeartbeats 4000000 in
set_option maxRecDepth 100000 in
theorem mX1_add (l : Launch) (D : va_G) (cy : Nat → ClassId) (kd : gKd) (ln : gLn) (rh : gRh) (post : gM → Prop) (a0 : Int) (a1 : Int) (a2 : Int) (a3 : Int) (a4 : Int) (M : gM) (hk0 : kd a0 = 1) (h : wX1_add kd ln post a0 a1 a2 a3 a4 M) : gMV l D cy yX1_add cX1_add 6 0 0 [.ref (gad a0), .int (gI a1), .int (gI a2), .int (gI a3), .int (gI a4)] kd ln rh M post := by
  refine gMV_of (own := RX1) (by decide) rfl (Nat.le_of_ble_eq_true rfl) ?_
  intro p e s m args below meth c A H0 Q C hret
  unfold wX1_add at h
  refine q_aload_n C 0 rfl rfl dX1_add_0 ?_
  refine q_get (v := .int (gI (M a0 0 (-1)))) C fX1_15 hk0 rfl dX1_add_1 (fun g1 => ?_)
  have h := h g1
  refine q_bipush C (by decide) dX1_add_4 ?_
  refine q_icmp_lt (tgt := 10) C g1 (show rng 36 by decide) (by decide) dX1_add_6 (fun b2 => ?_) (fun b2 => ?_)
  · have h := h.1 b2
    refine q_aload_n C 0 rfl rfl dX1_add_10 ?_
    refine q_get (v := .int (gI (M a0 0 (-1)))) C fX1_15 hk0 rfl dX1_add_11 (fun g3 => ?_)
    refine q_iconst C dX1_add_14 ?_
    refine q_imul C dX1_add_15 ?_
    refine q_topi (fun v4 ev4 => ?_)
    have h := h v4 ev4
    refine q_istore (lv' := [(5, .int (gI v4)), (0, .ref (gad a0)), (1, .int (gI a1)), (2, .int (gI a2)), (3, .int (gI a3)), (4, .int (gI a4))]) C (by decide) rfl dX1_add_16 ?_
    refine q_aload_n C 1 rfl rfl dX1_add_18 ?_
    obtain ⟨r5, h⟩ := h
    refine q_get (v := .ref (rh a0 1)) C fX1_11 hk0 (if_neg (Int.not_lt.mpr r5)) dX1_add_19 (fun g6 => ?_)
    refine q_iload C 0 rfl dX1_add_22 ?_
    refine q_iconst C dX1_add_24 ?_
    refine q_iadd C dX1_add_25 ?_
    refine q_iload_n C 2 rfl rfl dX1_add_26 ?_
    obtain ⟨r7, h⟩ := h
    obtain ⟨r8, h⟩ := h
    refine q_iast C hk0 rfl r8 r7 dX1_add_27 ?_
    refine q_aload_n C 1 rfl rfl dX1_add_28 ?_
    refine q_get (v := .ref (rh a0 1)) C fX1_11 hk0 (if_neg (Int.not_lt.mpr r5)) dX1_add_29 (fun g9 => ?_)
    refine q_iload C 0 rfl dX1_add_32 ?_
    refine q_iconst C dX1_add_34 ?_
    refine q_iadd C dX1_add_35 ?_
    refine q_iload_n C 3 rfl rfl dX1_add_36 ?_
    obtain ⟨r10, h⟩ := h
    obtain ⟨r11, h⟩ := h
    refine q_iast C hk0 rfl r11 r10 dX1_add_37 ?_
    refine q_aload_n C 1 rfl rfl dX1_add_38 ?_
    refine q_get (v := .ref (rh a0 1)) C fX1_11 hk0 (if_neg (Int.not_lt.mpr r5)) dX1_add_39 (fun g12 => ?_)
    refine q_iload C 0 rfl dX1_add_42 ?_
    refine q_iconst C dX1_add_44 ?_
    refine q_iadd C dX1_add_45 ?_
    refine q_iload_n C 4 rfl rfl dX1_add_46 ?_
    obtain ⟨r13, h⟩ := h
    obtain ⟨r14, h⟩ := h
    refine q_iast C hk0 rfl r14 r13 dX1_add_47 ?_
    refine q_aload_n C 1 rfl rfl dX1_add_48 ?_
    refine q_get (v := .ref (rh a0 1)) C fX1_11 hk0 (if_neg (Int.not_lt.mpr r5)) dX1_add_49 (fun g15 => ?_)
    refine q_iload C 0 rfl dX1_add_52 ?_
    refine q_iconst C dX1_add_54 ?_
    refine q_iadd C dX1_add_55 ?_
    refine q_iload C 5 rfl dX1_add_56 ?_
    obtain ⟨r16, h⟩ := h
    obtain ⟨r17, h⟩ := h
    refine q_iast C hk0 rfl r17 r16 dX1_add_58 ?_
    refine q_aload_n C 1 rfl rfl dX1_add_59 ?_
    refine q_dup C rfl dX1_add_60 ?_
    refine q_get (v := .int (gI ((gu (gu (gu (gu M a0 1 (v4 + 0) a1) a0 1 (v4 + 1) a2) a0 1 (v4 + 2) a3) a0 1 (v4 + 3) a4) a0 0 (-1)))) C fX1_15 hk0 rfl dX1_add_61 (fun g18 => ?_)
    have h := h g18
    refine q_iconst C dX1_add_64 ?_
    refine q_iadd C dX1_add_65 ?_
    obtain ⟨r19, h⟩ := h
    refine q_put (x := (((gu (gu (gu (gu M a0 1 (v4 + 0) a1) a0 1 (v4 + 1) a2) a0 1 (v4 + 2) a3) a0 1 (v4 + 3) a4) a0 0 (-1)) + 1)) (ty := .int) C fX1_15 hk0 (fun _ _ _ q => by cases q; rfl) (congrArg (fun z => Value.int (gI z)) gu_s) rfl rfl r19 dX1_add_66 ?_
    exact hret (gu (gu (gu (gu (gu M a0 1 (v4 + 0) a1) a0 1 (v4 + 1) a2) a0 1 (v4 + 2) a3) a0 1 (v4 + 3) a4) a0 0 (-1) (((gu (gu (gu (gu M a0 1 (v4 + 0) a1) a0 1 (v4 + 1) a2) a0 1 (v4 + 2) a3) a0 1 (v4 + 3) a4) a0 0 (-1)) + 1)) _ _ dX1_add_69 h
  · have h := h.2 b2
    exact hret M _ _ dX1_add_9 h
set_option maxHeartbeats 4000000 in
set_option maxRecDepth 100000 in
theorem mX1_keep (l : Launch) (D : va_G) (cy : Nat → ClassId) (kd : gKd) (ln : gLn) (rh : gRh) (post : gM → Prop) (a0 : Int) (a1 : Int) (M : gM) (hk0 : kd a0 = 1) (h : wX1_keep kd ln post a0 a1 M) : gMV l D cy yX1_keep cX1_keep 5 1 25 [.ref (gad a0), .int (gI a1)] kd ln rh M post := by
  refine gMV_of (own := RX1) (by decide) rfl (Nat.le_of_ble_eq_true rfl) ?_
  intro p e s m args below meth c A H0 Q C hret
  have t67 : ∀ (k12 : Int → Int → gM → Prop), (∀ (x2 : Int), ∀ (x3 : Int), ∀ (M : gM), k12 x2 x3 M → gW p l e (gRm 1 25) s m args below meth c D cy A H0 Q 5 kd ln rh 0 0 M 12 [(0, .ref (gad a0)), (1, .int (gI a1)), (2, .int (gI x2)), (3, .int (gI x3))] []) → ∀ (x2 : Int) (x3 : Int) (M : gM), wX1_keep_67 kd ln post a0 a1 k12 x2 x3 M → gW p l e (gRm 1 25) s m args below meth c D cy A H0 Q 5 kd ln rh 0 0 M 67 [(0, .ref (gad a0)), (1, .int (gI a1)), (2, .int (gI x2)), (3, .int (gI x3))] [] := by
    intro k12 hk12_ x2 x3 M h
    unfold wX1_keep_67 at h
    refine q_iinc (lv' := [(3, .int (gI (x3 + 1))), (0, .ref (gad a0)), (1, .int (gI a1)), (2, .int (gI x2))]) C 3 rfl (by decide) rfl dX1_keep_67 ?_
    refine q_goto (tgt := 12) C (by decide) dX1_keep_70 ?_
    refine q_lv (lv' := [(0, .ref (gad a0)), (1, .int (gI a1)), (2, .int (gI x2)), (3, .int (gI (x3 + 1)))]) [1, 2, 3, 0] rfl ?_
    exact hk12_ x2 (x3 + 1) M h
  have t12 : ∀ (n : Nat) (x2 : Int) (x3 : Int) (M : gM), wX1_keep_12 kd ln post a0 a1 n x2 x3 M → gW p l e (gRm 1 25) s m args below meth c D cy A H0 Q 5 kd ln rh 0 0 M 12 [(0, .ref (gad a0)), (1, .int (gI a1)), (2, .int (gI x2)), (3, .int (gI x3))] [] := by
    intro n
    induction n with
    | zero => intro x2 x3 M h; exact absurd h (by simp [wX1_keep_12])
    | succ n ih =>
      intro x2 x3 M h
      have hk12_ := ih
      rw [wX1_keep_12] at h
      refine q_iload_n C 3 rfl rfl dX1_keep_12 ?_
      refine q_iload_n C 2 rfl rfl dX1_keep_13 ?_
      obtain ⟨r3, h⟩ := h
      obtain ⟨r4, h⟩ := h
      refine q_icmp_ge (tgt := 73) C r3 r4 (by decide) dX1_keep_14 (fun b5 => ?_) (fun b5 => ?_)
      · have h := h.1 b5
        exact hret M _ _ dX1_keep_73 h
      · have h := h.2 b5
        refine q_iload_n C 3 rfl rfl dX1_keep_17 ?_
        refine q_iconst C dX1_keep_18 ?_
        refine q_imul C dX1_keep_19 ?_
        refine q_topi (fun v6 ev6 => ?_)
        have h := h v6 ev6
        refine q_istore (lv' := [(4, .int (gI v6)), (0, .ref (gad a0)), (1, .int (gI a1)), (2, .int (gI x2)), (3, .int (gI x3))]) C (by decide) rfl dX1_keep_20 ?_
        refine q_aload_n C 1 rfl rfl dX1_keep_22 ?_
        obtain ⟨r7, h⟩ := h
        refine q_get (v := .ref (rh a0 1)) C fX1_11 hk0 (if_neg (Int.not_lt.mpr r7)) dX1_keep_23 (fun g8 => ?_)
        refine q_iload C 0 rfl dX1_keep_26 ?_
        refine q_iconst C dX1_keep_28 ?_
        refine q_iadd C dX1_keep_29 ?_
        obtain ⟨r9, h⟩ := h
        refine q_iald C hk0 rfl (fun _ q => q) r9 dX1_keep_30 (fun g10 => ?_)
        have h := h g10
        refine q_iload_n C 2 rfl rfl dX1_keep_31 ?_
        obtain ⟨r11, h⟩ := h
        refine q_icmp_ne (tgt := 67) C g10 r11 (by decide) dX1_keep_32 (fun b12 => ?_) (fun b12 => ?_)
        · have h := h.1 b12
          refine q_lv (lv' := [(0, .ref (gad a0)), (1, .int (gI a1)), (2, .int (gI x2)), (3, .int (gI x3))]) [1, 2, 3, 4] rfl ?_
          exact t67 (wX1_keep_12 kd ln post a0 a1 n) hk12_ x2 x3 M h
        · have h := h.2 b12
          refine q_aload_n C 1 rfl rfl dX1_keep_35 ?_
          refine q_aload_n C 1 rfl rfl dX1_keep_36 ?_
          refine q_get (v := .ref (rh a0 1)) C fX1_11 hk0 (if_neg (Int.not_lt.mpr r7)) dX1_keep_37 (fun g13 => ?_)
          refine q_iload C 0 rfl dX1_keep_40 ?_
          refine q_iconst C dX1_keep_42 ?_
          refine q_iadd C dX1_keep_43 ?_
          obtain ⟨r14, h⟩ := h
          refine q_iald C hk0 rfl (fun _ q => q) r14 dX1_keep_44 (fun g15 => ?_)
          have h := h g15
          refine q_aload_n C 1 rfl rfl dX1_keep_45 ?_
          refine q_get (v := .ref (rh a0 1)) C fX1_11 hk0 (if_neg (Int.not_lt.mpr r7)) dX1_keep_46 (fun g16 => ?_)
          refine q_iload C 0 rfl dX1_keep_49 ?_
          refine q_iconst C dX1_keep_51 ?_
          refine q_iadd C dX1_keep_52 ?_
          obtain ⟨r17, h⟩ := h
          refine q_iald C hk0 rfl (fun _ q => q) r17 dX1_keep_53 (fun g18 => ?_)
          have h := h g18
          refine q_aload_n C 1 rfl rfl dX1_keep_54 ?_
          refine q_get (v := .ref (rh a0 1)) C fX1_11 hk0 (if_neg (Int.not_lt.mpr r7)) dX1_keep_55 (fun g19 => ?_)
          refine q_iload C 0 rfl dX1_keep_58 ?_
          refine q_iconst C dX1_keep_60 ?_
          refine q_iadd C dX1_keep_61 ?_
          obtain ⟨r20, h⟩ := h
          refine q_iald C hk0 rfl (fun _ q => q) r20 dX1_keep_62 (fun g21 => ?_)
          have h := h g21
          refine q_iload_n C 2 rfl rfl dX1_keep_63 ?_
          refine q_callVV (As := [.int (gI (M a0 1 (v6 + 0))), .int (gI (M a0 1 (v6 + 1))), .int (gI (M a0 1 (v6 + 2))), .int (gI a1)]) (st := []) C vX1_19 kX1_add ⟨by decide, by decide⟩ ⟨by decide, by decide⟩ rfl hk0 ⟨_, _, rfl⟩ (by decide) rfl (Nat.le_of_ble_eq_true rfl) (mX1_add l D cy kd ln rh _ a0 (M a0 1 (v6 + 0)) (M a0 1 (v6 + 1)) (M a0 1 (v6 + 2)) a1 M hk0 h) dX1_keep_64 (fun M22 h => ?_)
          refine q_lv (lv' := [(0, .ref (gad a0)), (1, .int (gI a1)), (2, .int (gI x2)), (3, .int (gI x3))]) [1, 2, 3, 4] rfl ?_
          exact t67 (wX1_keep_12 kd ln post a0 a1 n) hk12_ x2 x3 M22 h
  unfold wX1_keep at h
  refine q_aload_n C 0 rfl rfl dX1_keep_0 ?_
  refine q_get (v := .int (gI (M a0 0 (-1)))) C fX1_15 hk0 rfl dX1_keep_1 (fun g1 => ?_)
  have h := h g1
  refine q_topi (fun v2 ev2 => ?_)
  have h := h v2 ev2
  have gv2 : rng v2 := by rw [ev2]; exact g1
  refine q_istore_n (lv' := [(2, .int (gI v2)), (0, .ref (gad a0)), (1, .int (gI a1))]) C rfl (by decide) rfl dX1_keep_4 ?_
  refine q_aload_n C 1 rfl rfl dX1_keep_5 ?_
  refine q_iconst C dX1_keep_6 ?_
  refine q_put (x := 0) (ty := .int) C fX1_15 hk0 (fun _ _ _ q => by cases q; rfl) (congrArg (fun z => Value.int (gI z)) gu_s) rfl rfl (show rng 0 by decide) dX1_keep_7 ?_
  refine q_iconst C dX1_keep_10 ?_
  refine q_istore_n (lv' := [(3, .int (gI 0)), (2, .int (gI v2)), (0, .ref (gad a0)), (1, .int (gI a1))]) C rfl (by decide) rfl dX1_keep_11 ?_
  refine q_lv (lv' := [(0, .ref (gad a0)), (1, .int (gI a1)), (2, .int (gI v2)), (3, .int (gI 0))]) [2, 3, 1, 0] rfl ?_
  obtain ⟨j12, h⟩ := h
  exact t12  j12 v2 0 (gu M a0 0 (-1) 0) h
set_option maxHeartbeats 4000000 in
set_option maxRecDepth 100000 in
theorem mX1_tell (l : Launch) (D : va_G) (cy : Nat → ClassId) (kd : gKd) (ln : gLn) (rh : gRh) (post : Int → gM → Prop) (a0 : Int) (a1 : Int) (a2 : Int) (M : gM) (hk0 : kd a0 = 1) (h : wX1_tell kd ln post a0 a1 a2 M) : gMI l D cy yX1_tell cX1_tell 3 .int 0 0 [.ref (gad a0), .int (gI a1), .int (gI a2)] kd ln rh M post := by
  refine gMI_of (own := RX1) (by decide) rfl (Nat.le_of_ble_eq_true rfl) ?_
  intro p e s m args below meth c A H0 Q C hret
  have t21 : ∀ (M : gM), wX1_tell_21 kd ln post a0 a1 a2  M → gW p l e (gRm 0 0) s m args below meth c D cy A H0 Q 3 kd ln rh 0 0 M 21 [] [] := by
    intro   M h
    unfold wX1_tell_21 at h
    refine q_iconst C dX1_tell_21 ?_
    refine q_goto (tgt := 35) C (by decide) dX1_tell_22 ?_
    exact hret (-1) M _ _ dX1_tell_35 (show rng (-1) by decide) h
  unfold wX1_tell at h
  refine q_iload_n C 1 rfl rfl dX1_tell_0 ?_
  obtain ⟨r1, h⟩ := h
  refine q_if_lt (tgt := 21) C r1 (by decide) dX1_tell_1 (fun b2 => ?_) (fun b2 => ?_)
  · have h := h.1 b2
    refine q_lv (lv' := []) [] rfl ?_
    exact t21  M h
  · have h := h.2 b2
    refine q_iload_n C 1 rfl rfl dX1_tell_4 ?_
    refine q_aload_n C 0 rfl rfl dX1_tell_5 ?_
    refine q_get (v := .int (gI (M a0 0 (-1)))) C fX1_15 hk0 rfl dX1_tell_6 (fun g3 => ?_)
    have h := h g3
    refine q_icmp_ge (tgt := 21) C r1 g3 (by decide) dX1_tell_9 (fun b4 => ?_) (fun b4 => ?_)
    · have h := h.1 b4
      refine q_lv (lv' := []) [] rfl ?_
      exact t21  M h
    · have h := h.2 b4
      refine q_iload_n C 2 rfl rfl dX1_tell_12 ?_
      obtain ⟨r5, h⟩ := h
      refine q_if_lt (tgt := 21) C r5 (by decide) dX1_tell_13 (fun b6 => ?_) (fun b6 => ?_)
      · have h := h.1 b6
        refine q_lv (lv' := []) [] rfl ?_
        exact t21  M h
      · have h := h.2 b6
        refine q_iload_n C 2 rfl rfl dX1_tell_16 ?_
        refine q_iconst C dX1_tell_17 ?_
        refine q_icmp_lt (tgt := 25) C r5 (show rng 4 by decide) (by decide) dX1_tell_18 (fun b7 => ?_) (fun b7 => ?_)
        · have h := h.1 b7
          refine q_aload_n C 0 rfl rfl dX1_tell_25 ?_
          obtain ⟨r8, h⟩ := h
          refine q_get (v := .ref (rh a0 1)) C fX1_11 hk0 (if_neg (Int.not_lt.mpr r8)) dX1_tell_26 (fun g9 => ?_)
          refine q_iload_n C 1 rfl rfl dX1_tell_29 ?_
          refine q_iconst C dX1_tell_30 ?_
          refine q_imul C dX1_tell_31 ?_
          refine q_iload_n C 2 rfl rfl dX1_tell_32 ?_
          refine q_iadd C dX1_tell_33 ?_
          obtain ⟨r10, h⟩ := h
          refine q_iald C hk0 rfl (fun _ q => q) r10 dX1_tell_34 (fun g11 => ?_)
          have h := h g11
          exact hret (M a0 1 ((a1 * 4) + a2)) M _ _ dX1_tell_35 g11 h
        · have h := h.2 b7
          refine q_lv (lv' := []) [] rfl ?_
          exact t21  M h
set_option maxHeartbeats 4000000 in
set_option maxRecDepth 100000 in
theorem mX5_cellAt (l : Launch) (D : va_G) (cy : Nat → ClassId) (kd : gKd) (ln : gLn) (rh : gRh) (post : Int → gM → Prop) (a0 : Int) (a1 : Int) (a2 : Int) (M : gM)  (h : wX5_cellAt kd ln post a0 a1 a2 M) : gMI l D cy yX5_cellAt cX5_cellAt 3 .int 0 0 [.int (gI a0), .int (gI a1), .int (gI a2)] kd ln rh M post := by
  refine gMI_of (own := RX5) (by decide) rfl (Nat.le_of_ble_eq_true rfl) ?_
  intro p e s m args below meth c A H0 Q C hret
  unfold wX5_cellAt at h
  refine q_iload_n C 0 rfl rfl dX5_cellAt_0 ?_
  refine q_bipush C (by decide) dX5_cellAt_1 ?_
  refine q_imul C dX5_cellAt_3 ?_
  refine q_bipush C (by decide) dX5_cellAt_4 ?_
  refine q_imul C dX5_cellAt_6 ?_
  refine q_iload_n C 1 rfl rfl dX5_cellAt_7 ?_
  refine q_iadd C dX5_cellAt_8 ?_
  refine q_iconst C dX5_cellAt_9 ?_
  refine q_imul C dX5_cellAt_10 ?_
  refine q_iload_n C 2 rfl rfl dX5_cellAt_11 ?_
  refine q_iadd C dX5_cellAt_12 ?_
  obtain ⟨r1, h⟩ := h
  exact hret (((((a0 * 8) * 8) + a1) * 2) + a2) M _ _ dX5_cellAt_13 r1 h
set_option maxHeartbeats 4000000 in
set_option maxRecDepth 100000 in
theorem mX2_cellOf (l : Launch) (D : va_G) (cy : Nat → ClassId) (kd : gKd) (ln : gLn) (rh : gRh) (post : Int → gM → Prop) (a0 : Int) (a1 : Int) (a2 : Int) (a3 : Int) (a4 : Int) (M : gM) (hk0 : kd a0 = 2) (h : wX2_cellOf kd ln post a0 a1 a2 a3 a4 M) : gMI l D cy yX2_cellOf cX2_cellOf 8 .int 1 22 [.ref (gad a0), .int (gI a1), .int (gI a2), .int (gI a3), .int (gI a4)] kd ln rh M post := by
  refine gMI_of (own := RX2) (by decide) rfl (Nat.le_of_ble_eq_true rfl) ?_
  intro p e s m args below meth c A H0 Q C hret
  have t76 : ∀ (y0 : Int) (y1 : Int) (M : gM), wX2_cellOf_76 kd ln post a0 a1 a2 a3 a4 y0 y1 M → gW p l e (gRm 1 22) s m args below meth c D cy A H0 Q 8 kd ln rh 0 0 M 76 [(4, .int (gI a4))] [.int (gI y0), .int (gI y1)] := by
    intro  y0 y1 M h
    unfold wX2_cellOf_76 at h
    refine q_iload C 0 rfl dX2_cellOf_76 ?_
    refine q_callSI (As := [.int (gI y1), .int (gI y0), .int (gI a4)]) (st := []) C vX2_55 kX5_cellAt ⟨by decide, by decide⟩ ⟨by decide, by decide⟩ rfl rfl (Nat.le_of_ble_eq_true rfl) (mX5_cellAt l D cy kd ln rh _ y1 y0 a4 M  h) dX2_cellOf_78 (fun c31 M30 g32 h => ?_)
    have h := h g32
    exact hret c31 M30 _ _ dX2_cellOf_81 g32 h
  unfold wX2_cellOf at h
  refine q_iload_n C 1 rfl rfl dX2_cellOf_0 ?_
  refine q_aload_n C 0 rfl rfl dX2_cellOf_1 ?_
  refine q_get (v := .int (gI (M a0 3 (-1)))) C fX2_15 hk0 rfl dX2_cellOf_2 (fun g1 => ?_)
  have h := h g1
  refine q_imul C dX2_cellOf_5 ?_
  refine q_iload_n C 2 rfl rfl dX2_cellOf_6 ?_
  refine q_iadd C dX2_cellOf_7 ?_
  refine q_topi (fun v2 ev2 => ?_)
  have h := h v2 ev2
  refine q_istore (lv' := [(5, .int (gI v2)), (0, .ref (gad a0)), (1, .int (gI a1)), (2, .int (gI a2)), (3, .int (gI a3)), (4, .int (gI a4))]) C (by decide) rfl dX2_cellOf_8 ?_
  refine q_aload_n C 1 rfl rfl dX2_cellOf_10 ?_
  obtain ⟨r3, h⟩ := h
  refine q_get (v := .ref (rh a0 5)) C fX2_23 hk0 (if_neg (Int.not_lt.mpr r3)) dX2_cellOf_11 (fun g4 => ?_)
  refine q_iload C 0 rfl dX2_cellOf_14 ?_
  obtain ⟨r5, h⟩ := h
  refine q_iald C hk0 rfl (fun _ q => q) r5 dX2_cellOf_16 (fun g6 => ?_)
  have h := h g6
  refine q_iconst C dX2_cellOf_17 ?_
  refine q_icmp_ne (tgt := 23) C g6 (show rng (-1) by decide) (by decide) dX2_cellOf_18 (fun b7 => ?_) (fun b7 => ?_)
  · have h := h.1 b7
    refine q_aload_n C 1 rfl rfl dX2_cellOf_23 ?_
    obtain ⟨r9, h⟩ := h
    obtain ⟨r10, h⟩ := h
    obtain ⟨r11, h⟩ := h
    refine q_get (v := .ref (rh (M a0 4 (-1)) 4)) C fX2_22 hk0 (if_neg r9) dX2_cellOf_24 (fun g8 => ?_)
    refine q_aload_n C 1 rfl rfl dX2_cellOf_27 ?_
    obtain ⟨r12, h⟩ := h
    refine q_get (v := .ref (rh a0 6)) C fX2_26 hk0 (if_neg (Int.not_lt.mpr r12)) dX2_cellOf_28 (fun g13 => ?_)
    refine q_iload C 0 rfl dX2_cellOf_31 ?_
    obtain ⟨r14, h⟩ := h
    refine q_iald C hk0 rfl (fun _ q => q) r14 dX2_cellOf_33 (fun g15 => ?_)
    have h := h g15
    refine q_iload_n C 4 rfl rfl dX2_cellOf_34 ?_
    refine q_iadd C dX2_cellOf_35 ?_
    obtain ⟨r16, h⟩ := h
    refine q_iald C r10 rfl (fun _ q => q) r16 dX2_cellOf_36 (fun g17 => ?_)
    have h := h g17
    refine q_topi (fun v18 ev18 => ?_)
    have h := h v18 ev18
    have gv18 : rng v18 := by rw [ev18]; exact g17
    refine q_istore (lv' := [(6, .int (gI v18)), (5, .int (gI v2)), (0, .ref (gad a0)), (1, .int (gI a1)), (2, .int (gI a2)), (3, .int (gI a3)), (4, .int (gI a4))]) C (by decide) rfl dX2_cellOf_37 ?_
    refine q_aload_n C 2 rfl rfl dX2_cellOf_39 ?_
    refine q_get (v := .ref (rh (M a0 4 (-1)) 4)) C fX2_22 hk0 (if_neg r9) dX2_cellOf_40 (fun g19 => ?_)
    refine q_aload_n C 2 rfl rfl dX2_cellOf_43 ?_
    obtain ⟨r20, h⟩ := h
    refine q_get (v := .ref (rh a0 7)) C fX2_29 hk0 (if_neg (Int.not_lt.mpr r20)) dX2_cellOf_44 (fun g21 => ?_)
    refine q_iload C 1 rfl dX2_cellOf_47 ?_
    obtain ⟨r22, h⟩ := h
    refine q_iald C hk0 rfl (fun _ q => q) r22 dX2_cellOf_49 (fun g23 => ?_)
    have h := h g23
    refine q_iload_n C 5 rfl rfl dX2_cellOf_50 ?_
    refine q_iadd C dX2_cellOf_51 ?_
    obtain ⟨r24, h⟩ := h
    refine q_iald C r10 rfl (fun _ q => q) r24 dX2_cellOf_52 (fun g25 => ?_)
    have h := h g25
    refine q_topi (fun v26 ev26 => ?_)
    have h := h v26 ev26
    have gv26 : rng v26 := by rw [ev26]; exact g25
    refine q_istore (lv' := [(7, .int (gI v26)), (6, .int (gI v18)), (5, .int (gI v2)), (0, .ref (gad a0)), (1, .int (gI a1)), (2, .int (gI a2)), (3, .int (gI a3)), (4, .int (gI a4))]) C (by decide) rfl dX2_cellOf_53 ?_
    refine q_aload_n C 3 rfl rfl dX2_cellOf_55 ?_
    refine q_get (v := .ref (rh a0 5)) C fX2_23 hk0 (if_neg (Int.not_lt.mpr r3)) dX2_cellOf_56 (fun g27 => ?_)
    refine q_iload C 2 rfl dX2_cellOf_59 ?_
    refine q_iald C hk0 rfl (fun _ q => q) r5 dX2_cellOf_61 (fun g28 => ?_)
    refine q_iload C 1 rfl dX2_cellOf_62 ?_
    refine q_iload C 0 rfl dX2_cellOf_64 ?_
    refine q_icmp_ge (tgt := 74) C gv18 gv26 (by decide) dX2_cellOf_66 (fun b29 => ?_) (fun b29 => ?_)
    · have h := h.1 b29
      refine q_iload C 0 rfl dX2_cellOf_74 ?_
      refine q_lv (lv' := [(4, .int (gI a4))]) [7] rfl ?_
      exact t76  v26 (M a0 5 v2) M h
    · have h := h.2 b29
      refine q_iload C 1 rfl dX2_cellOf_69 ?_
      refine q_goto (tgt := 76) C (by decide) dX2_cellOf_71 ?_
      refine q_lv (lv' := [(4, .int (gI a4))]) [7] rfl ?_
      exact t76  v18 (M a0 5 v2) M h
  · have h := h.2 b7
    refine q_iconst C dX2_cellOf_21 ?_
    exact hret (-1) M _ _ dX2_cellOf_22 (show rng (-1) by decide) h
set_option maxHeartbeats 4000000 in
set_option maxRecDepth 100000 in
theorem mX2_enter (l : Launch) (D : va_G) (cy : Nat → ClassId) (kd : gKd) (ln : gLn) (rh : gRh) (post : gM → Prop) (a0 : Int) (a1 : Int) (a2 : Int) (a3 : Int) (M : gM) (hk0 : kd a0 = 2) (h : wX2_enter kd ln post a0 a1 a2 a3 M) : gMV l D cy yX2_enter cX2_enter 8 0 0 [.ref (gad a0), .int (gI a1), .int (gI a2), .int (gI a3)] kd ln rh M post := by
  refine gMV_of (own := RX2) (by decide) rfl (Nat.le_of_ble_eq_true rfl) ?_
  intro p e s m args below meth c A H0 Q C hret
  have t90 : ∀ (k17 : Int → Int → Int → gM → Prop), (∀ (x4 : Int), ∀ (x5 : Int), ∀ (x6 : Int), ∀ (M : gM), k17 x4 x5 x6 M → gW p l e (gRm 0 0) s m args below meth c D cy A H0 Q 8 kd ln rh 0 0 M 17 [(0, .ref (gad a0)), (1, .int (gI a1)), (2, .int (gI a2)), (3, .int (gI a3)), (4, .int (gI x4)), (5, .int (gI x5)), (6, .int (gI x6))] []) → ∀ (x4 : Int) (x5 : Int) (x6 : Int) (M : gM), wX2_enter_90 kd ln post a0 a1 a2 a3 k17 x4 x5 x6 M → gW p l e (gRm 0 0) s m args below meth c D cy A H0 Q 8 kd ln rh 0 0 M 90 [(0, .ref (gad a0)), (1, .int (gI a1)), (2, .int (gI a2)), (3, .int (gI a3)), (4, .int (gI x4)), (5, .int (gI x5)), (6, .int (gI x6))] [] := by
    intro k17 hk17_ x4 x5 x6 M h
    unfold wX2_enter_90 at h
    refine q_iload C 6 rfl dX2_enter_90 ?_
    refine q_aload_n C 0 rfl rfl dX2_enter_92 ?_
    refine q_get (v := .int (gI (M a0 3 (-1)))) C fX2_15 hk0 rfl dX2_enter_93 (fun g56 => ?_)
    have h := h g56
    refine q_iadd C dX2_enter_96 ?_
    refine q_topi (fun v57 ev57 => ?_)
    have h := h v57 ev57
    refine q_istore (lv' := [(6, .int (gI v57)), (0, .ref (gad a0)), (1, .int (gI a1)), (2, .int (gI a2)), (3, .int (gI a3)), (4, .int (gI x4)), (5, .int (gI x5))]) C (by decide) rfl dX2_enter_97 ?_
    refine q_goto (tgt := 17) C (by decide) dX2_enter_99 ?_
    refine q_lv (lv' := [(0, .ref (gad a0)), (1, .int (gI a1)), (2, .int (gI a2)), (3, .int (gI a3)), (4, .int (gI x4)), (5, .int (gI x5)), (6, .int (gI v57))]) [1, 2, 3, 4, 5, 6, 0] rfl ?_
    exact hk17_ x4 x5 v57 M h
  have t70 : ∀ (k17 : Int → Int → Int → gM → Prop), (∀ (x4 : Int), ∀ (x5 : Int), ∀ (x6 : Int), ∀ (M : gM), k17 x4 x5 x6 M → gW p l e (gRm 0 0) s m args below meth c D cy A H0 Q 8 kd ln rh 0 0 M 17 [(0, .ref (gad a0)), (1, .int (gI a1)), (2, .int (gI a2)), (3, .int (gI a3)), (4, .int (gI x4)), (5, .int (gI x5)), (6, .int (gI x6))] []) → ∀ (x4 : Int) (x5 : Int) (x6 : Int) (x7 : Int) (M : gM), wX2_enter_70 kd ln post a0 a1 a2 a3 k17 x4 x5 x6 x7 M → gW p l e (gRm 0 0) s m args below meth c D cy A H0 Q 8 kd ln rh 0 0 M 70 [(0, .ref (gad a0)), (1, .int (gI a1)), (2, .int (gI a2)), (3, .int (gI a3)), (4, .int (gI x4)), (5, .int (gI x5)), (6, .int (gI x6)), (7, .int (gI x7))] [] := by
    intro k17 hk17_ x4 x5 x6 x7 M h
    unfold wX2_enter_70 at h
    refine q_iload C 7 rfl dX2_enter_70 ?_
    refine q_iload C 5 rfl dX2_enter_72 ?_
    obtain ⟨r49, h⟩ := h
    obtain ⟨r50, h⟩ := h
    refine q_icmp_gt (tgt := 90) C r49 r50 (by decide) dX2_enter_74 (fun b51 => ?_) (fun b51 => ?_)
    · have h := h.1 b51
      refine q_lv (lv' := [(0, .ref (gad a0)), (1, .int (gI a1)), (2, .int (gI a2)), (3, .int (gI a3)), (4, .int (gI x4)), (5, .int (gI x5)), (6, .int (gI x6))]) [0, 1, 2, 3, 4, 5, 6] rfl ?_
      exact t90 k17 hk17_ x4 x5 x6 M h
    · have h := h.2 b51
      refine q_aload_n C 0 rfl rfl dX2_enter_77 ?_
      obtain ⟨r52, h⟩ := h
      refine q_get (v := .ref (rh a0 7)) C fX2_29 hk0 (if_neg (Int.not_lt.mpr r52)) dX2_enter_78 (fun g53 => ?_)
      refine q_iload C 4 rfl dX2_enter_81 ?_
      refine q_iload C 6 rfl dX2_enter_83 ?_
      obtain ⟨r54, h⟩ := h
      obtain ⟨r55, h⟩ := h
      refine q_iast C hk0 rfl r55 r54 dX2_enter_85 ?_
      refine q_iload C 7 rfl dX2_enter_86 ?_
      refine q_istore (lv' := [(5, .int (gI x7)), (0, .ref (gad a0)), (1, .int (gI a1)), (2, .int (gI a2)), (3, .int (gI a3)), (4, .int (gI x4)), (6, .int (gI x6)), (7, .int (gI x7))]) C (by decide) rfl dX2_enter_88 ?_
      refine q_lv (lv' := [(0, .ref (gad a0)), (1, .int (gI a1)), (2, .int (gI a2)), (3, .int (gI a3)), (4, .int (gI x4)), (5, .int (gI x7)), (6, .int (gI x6))]) [1, 2, 3, 4, 5, 0, 6] rfl ?_
      exact t90 k17 hk17_ x4 x7 x6 (gu M a0 7 x4 x6) h
  have t17 : ∀ (n : Nat) (x4 : Int) (x5 : Int) (x6 : Int) (M : gM), wX2_enter_17 kd ln post a0 a1 a2 a3 n x4 x5 x6 M → gW p l e (gRm 0 0) s m args below meth c D cy A H0 Q 8 kd ln rh 0 0 M 17 [(0, .ref (gad a0)), (1, .int (gI a1)), (2, .int (gI a2)), (3, .int (gI a3)), (4, .int (gI x4)), (5, .int (gI x5)), (6, .int (gI x6))] [] := by
    intro n
    induction n with
    | zero => intro x4 x5 x6 M h; exact absurd h (by simp [wX2_enter_17])
    | succ n ih =>
      intro x4 x5 x6 M h
      have hk17_ := ih
      rw [wX2_enter_17] at h
      refine q_iload C 6 rfl dX2_enter_17 ?_
      refine q_iload_n C 3 rfl rfl dX2_enter_19 ?_
      refine q_aload_n C 0 rfl rfl dX2_enter_20 ?_
      refine q_get (v := .int (gI (M a0 3 (-1)))) C fX2_15 hk0 rfl dX2_enter_21 (fun g3 => ?_)
      have h := h g3
      refine q_imul C dX2_enter_24 ?_
      obtain ⟨r4, h⟩ := h
      obtain ⟨r5, h⟩ := h
      refine q_icmp_ge (tgt := 102) C r4 r5 (by decide) dX2_enter_25 (fun b6 => ?_) (fun b6 => ?_)
      · have h := h.1 b6
        refine q_iload C 5 rfl dX2_enter_102 ?_
        refine q_iload C 4 rfl dX2_enter_104 ?_
        obtain ⟨r7, h⟩ := h
        obtain ⟨r8, h⟩ := h
        refine q_icmp_ne (tgt := 153) C r7 r8 (by decide) dX2_enter_106 (fun b9 => ?_) (fun b9 => ?_)
        · have h := h.1 b9
          refine q_aload_n C 0 rfl rfl dX2_enter_153 ?_
          obtain ⟨r10, h⟩ := h
          refine q_get (v := .ref (rh a0 5)) C fX2_23 hk0 (if_neg (Int.not_lt.mpr r10)) dX2_enter_154 (fun g11 => ?_)
          refine q_iload C 4 rfl dX2_enter_157 ?_
          refine q_aload_n C 0 rfl rfl dX2_enter_159 ?_
          refine q_get (v := .ref (rh a0 5)) C fX2_23 hk0 (if_neg (Int.not_lt.mpr r10)) dX2_enter_160 (fun g12 => ?_)
          refine q_iload C 5 rfl dX2_enter_163 ?_
          obtain ⟨r13, h⟩ := h
          refine q_iald C hk0 rfl (fun _ q => q) r13 dX2_enter_165 (fun g14 => ?_)
          have h := h g14
          obtain ⟨r15, h⟩ := h
          refine q_iast C hk0 rfl g14 r15 dX2_enter_166 ?_
          exact hret (gu M a0 5 x4 (M a0 5 x5)) _ _ dX2_enter_167 h
        · have h := h.2 b9
          refine q_aload_n C 0 rfl rfl dX2_enter_109 ?_
          obtain ⟨r16, h⟩ := h
          refine q_get (v := .ref (rh a0 1)) C fX2_32 hk0 (if_neg (Int.not_lt.mpr r16)) dX2_enter_110 (fun g17 => ?_)
          refine q_aload_n C 0 rfl rfl dX2_enter_113 ?_
          refine q_get (v := .int (gI (M a0 0 (-1)))) C fX2_52 hk0 rfl dX2_enter_114 (fun g18 => ?_)
          have h := h g18
          refine q_iload_n C 1 rfl rfl dX2_enter_117 ?_
          obtain ⟨r19, h⟩ := h
          obtain ⟨r20, h⟩ := h
          refine q_iast C hk0 rfl r20 r19 dX2_enter_118 ?_
          refine q_aload_n C 0 rfl rfl dX2_enter_119 ?_
          obtain ⟨r21, h⟩ := h
          refine q_get (v := .ref (rh a0 2)) C fX2_35 hk0 (if_neg (Int.not_lt.mpr r21)) dX2_enter_120 (fun g22 => ?_)
          refine q_aload_n C 0 rfl rfl dX2_enter_123 ?_
          refine q_get (v := .int (gI ((gu M a0 1 (M a0 0 (-1)) a1) a0 0 (-1)))) C fX2_52 hk0 rfl dX2_enter_124 (fun g23 => ?_)
          have h := h g23
          refine q_iload_n C 2 rfl rfl dX2_enter_127 ?_
          obtain ⟨r24, h⟩ := h
          obtain ⟨r25, h⟩ := h
          refine q_iast C hk0 rfl r25 r24 dX2_enter_128 ?_
          refine q_aload_n C 0 rfl rfl dX2_enter_129 ?_
          obtain ⟨r26, h⟩ := h
          refine q_get (v := .ref (rh a0 5)) C fX2_23 hk0 (if_neg (Int.not_lt.mpr r26)) dX2_enter_130 (fun g27 => ?_)
          refine q_iload C 4 rfl dX2_enter_133 ?_
          refine q_aload_n C 0 rfl rfl dX2_enter_135 ?_
          refine q_get (v := .int (gI ((gu (gu M a0 1 (M a0 0 (-1)) a1) a0 2 ((gu M a0 1 (M a0 0 (-1)) a1) a0 0 (-1)) a2) a0 0 (-1)))) C fX2_52 hk0 rfl dX2_enter_136 (fun g28 => ?_)
          have h := h g28
          obtain ⟨r29, h⟩ := h
          refine q_iast C hk0 rfl g28 r29 dX2_enter_139 ?_
          refine q_aload_n C 0 rfl rfl dX2_enter_140 ?_
          refine q_dup C rfl dX2_enter_141 ?_
          refine q_get (v := .int (gI ((gu (gu (gu M a0 1 (M a0 0 (-1)) a1) a0 2 ((gu M a0 1 (M a0 0 (-1)) a1) a0 0 (-1)) a2) a0 5 x4 ((gu (gu M a0 1 (M a0 0 (-1)) a1) a0 2 ((gu M a0 1 (M a0 0 (-1)) a1) a0 0 (-1)) a2) a0 0 (-1))) a0 0 (-1)))) C fX2_52 hk0 rfl dX2_enter_142 (fun g30 => ?_)
          have h := h g30
          refine q_iconst C dX2_enter_145 ?_
          refine q_iadd C dX2_enter_146 ?_
          obtain ⟨r31, h⟩ := h
          refine q_put (x := (((gu (gu (gu M a0 1 (M a0 0 (-1)) a1) a0 2 ((gu M a0 1 (M a0 0 (-1)) a1) a0 0 (-1)) a2) a0 5 x4 ((gu (gu M a0 1 (M a0 0 (-1)) a1) a0 2 ((gu M a0 1 (M a0 0 (-1)) a1) a0 0 (-1)) a2) a0 0 (-1))) a0 0 (-1)) + 1)) (ty := .int) C fX2_52 hk0 (fun _ _ _ q => by cases q; rfl) (congrArg (fun z => Value.int (gI z)) gu_s) rfl rfl r31 dX2_enter_147 ?_
          refine q_goto (tgt := 167) C (by decide) dX2_enter_150 ?_
          exact hret (gu (gu (gu (gu M a0 1 (M a0 0 (-1)) a1) a0 2 ((gu M a0 1 (M a0 0 (-1)) a1) a0 0 (-1)) a2) a0 5 x4 ((gu (gu M a0 1 (M a0 0 (-1)) a1) a0 2 ((gu M a0 1 (M a0 0 (-1)) a1) a0 0 (-1)) a2) a0 0 (-1))) a0 0 (-1) (((gu (gu (gu M a0 1 (M a0 0 (-1)) a1) a0 2 ((gu M a0 1 (M a0 0 (-1)) a1) a0 0 (-1)) a2) a0 5 x4 ((gu (gu M a0 1 (M a0 0 (-1)) a1) a0 2 ((gu M a0 1 (M a0 0 (-1)) a1) a0 0 (-1)) a2) a0 0 (-1))) a0 0 (-1)) + 1)) _ _ dX2_enter_167 h
      · have h := h.2 b6
        refine q_aload_n C 0 rfl rfl dX2_enter_28 ?_
        obtain ⟨r33, h⟩ := h
        obtain ⟨r34, h⟩ := h
        obtain ⟨r35, h⟩ := h
        refine q_get (v := .ref (rh (M a0 4 (-1)) 4)) C fX2_22 hk0 (if_neg r33) dX2_enter_29 (fun g32 => ?_)
        refine q_iload C 6 rfl dX2_enter_32 ?_
        refine q_iload_n C 1 rfl rfl dX2_enter_34 ?_
        refine q_iadd C dX2_enter_35 ?_
        obtain ⟨r36, h⟩ := h
        refine q_iald C r34 rfl (fun _ q => q) r36 dX2_enter_36 (fun g37 => ?_)
        have h := h g37
        refine q_aload_n C 0 rfl rfl dX2_enter_37 ?_
        refine q_get (v := .int (gI (M a0 3 (-1)))) C fX2_15 hk0 rfl dX2_enter_38 (fun g38 => ?_)
        refine q_imul C dX2_enter_41 ?_
        refine q_aload_n C 0 rfl rfl dX2_enter_42 ?_
        refine q_get (v := .ref (rh (M a0 4 (-1)) 4)) C fX2_22 hk0 (if_neg r33) dX2_enter_43 (fun g39 => ?_)
        refine q_iload C 6 rfl dX2_enter_46 ?_
        refine q_iload_n C 2 rfl rfl dX2_enter_48 ?_
        refine q_iadd C dX2_enter_49 ?_
        obtain ⟨r40, h⟩ := h
        refine q_iald C r34 rfl (fun _ q => q) r40 dX2_enter_50 (fun g41 => ?_)
        have h := h g41
        refine q_iadd C dX2_enter_51 ?_
        refine q_topi (fun v42 ev42 => ?_)
        have h := h v42 ev42
        refine q_istore (lv' := [(7, .int (gI v42)), (0, .ref (gad a0)), (1, .int (gI a1)), (2, .int (gI a2)), (3, .int (gI a3)), (4, .int (gI x4)), (5, .int (gI x5)), (6, .int (gI x6))]) C (by decide) rfl dX2_enter_52 ?_
        refine q_iload C 0 rfl dX2_enter_54 ?_
        refine q_iload C 6 rfl dX2_enter_56 ?_
        obtain ⟨r43, h⟩ := h
        obtain ⟨r44, h⟩ := h
        refine q_icmp_ge (tgt := 70) C r43 r44 (by decide) dX2_enter_58 (fun b45 => ?_) (fun b45 => ?_)
        · have h := h.1 b45
          refine q_lv (lv' := [(0, .ref (gad a0)), (1, .int (gI a1)), (2, .int (gI a2)), (3, .int (gI a3)), (4, .int (gI x4)), (5, .int (gI x5)), (6, .int (gI x6)), (7, .int (gI v42))]) [1, 2, 3, 4, 5, 6, 7, 0] rfl ?_
          exact t70 (wX2_enter_17 kd ln post a0 a1 a2 a3 n) hk17_ x4 x5 x6 v42 M h
        · have h := h.2 b45
          refine q_aload_n C 1 rfl rfl dX2_enter_61 ?_
          obtain ⟨r46, h⟩ := h
          refine q_get (v := .ref (rh a0 6)) C fX2_26 hk0 (if_neg (Int.not_lt.mpr r46)) dX2_enter_62 (fun g47 => ?_)
          refine q_iload C 5 rfl dX2_enter_65 ?_
          refine q_iload C 7 rfl dX2_enter_67 ?_
          obtain ⟨r48, h⟩ := h
          refine q_iast C hk0 rfl r4 r48 dX2_enter_69 ?_
          refine q_lv (lv' := [(0, .ref (gad a0)), (1, .int (gI a1)), (2, .int (gI a2)), (3, .int (gI a3)), (4, .int (gI x4)), (5, .int (gI x5)), (6, .int (gI x6)), (7, .int (gI v42))]) [1, 2, 3, 4, 5, 6, 7, 0] rfl ?_
          exact t70 (wX2_enter_17 kd ln post a0 a1 a2 a3 n) hk17_ x4 x5 x6 v42 (gu M a0 6 x4 x6) h
  unfold wX2_enter at h
  refine q_iload_n C 1 rfl rfl dX2_enter_0 ?_
  refine q_aload_n C 0 rfl rfl dX2_enter_1 ?_
  refine q_get (v := .int (gI (M a0 3 (-1)))) C fX2_15 hk0 rfl dX2_enter_2 (fun g1 => ?_)
  have h := h g1
  refine q_imul C dX2_enter_5 ?_
  refine q_iload_n C 2 rfl rfl dX2_enter_6 ?_
  refine q_iadd C dX2_enter_7 ?_
  refine q_topi (fun v2 ev2 => ?_)
  have h := h v2 ev2
  refine q_istore (lv' := [(4, .int (gI v2)), (0, .ref (gad a0)), (1, .int (gI a1)), (2, .int (gI a2)), (3, .int (gI a3))]) C (by decide) rfl dX2_enter_8 ?_
  refine q_iload C 0 rfl dX2_enter_10 ?_
  refine q_istore (lv' := [(5, .int (gI v2)), (4, .int (gI v2)), (0, .ref (gad a0)), (1, .int (gI a1)), (2, .int (gI a2)), (3, .int (gI a3))]) C (by decide) rfl dX2_enter_12 ?_
  refine q_iconst C dX2_enter_14 ?_
  refine q_istore (lv' := [(6, .int (gI 0)), (5, .int (gI v2)), (4, .int (gI v2)), (0, .ref (gad a0)), (1, .int (gI a1)), (2, .int (gI a2)), (3, .int (gI a3))]) C (by decide) rfl dX2_enter_15 ?_
  refine q_lv (lv' := [(0, .ref (gad a0)), (1, .int (gI a1)), (2, .int (gI a2)), (3, .int (gI a3)), (4, .int (gI v2)), (5, .int (gI v2)), (6, .int (gI 0))]) [3, 4, 5, 6, 2, 1, 0] rfl ?_
  obtain ⟨j17, h⟩ := h
  exact t17  j17 v2 v2 0 M h
set_option maxHeartbeats 4000000 in
set_option maxRecDepth 100000 in
theorem mX3_chainPromotion (l : Launch) (D : va_G) (cy : Nat → ClassId) (kd : gKd) (ln : gLn) (rh : gRh) (post : gM → Prop) (a0 : Int) (a1 : Int) (a2 : Int) (M : gM) (hk0 : kd a0 = 3) (h : wX3_chainPromotion kd ln post a0 a1 a2 M) : gMV l D cy yX3_chainPromotion cX3_chainPromotion 3 0 0 [.ref (gad a0), .int (gI a1), .int (gI a2)] kd ln rh M post := by
  refine gMV_of (own := RX3) (by decide) rfl (Nat.le_of_ble_eq_true rfl) ?_
  intro p e s m args below meth c A H0 Q C hret
  unfold wX3_chainPromotion at h
  refine q_iload_n C 2 rfl rfl dX3_chainPromotion_0 ?_
  refine q_iconst C dX3_chainPromotion_1 ?_
  obtain ⟨r1, h⟩ := h
  refine q_icmp_eq (tgt := 23) C r1 (show rng (-1) by decide) (by decide) dX3_chainPromotion_2 (fun b2 => ?_) (fun b2 => ?_)
  · have h := h.1 b2
    exact hret M _ _ dX3_chainPromotion_23 h
  · have h := h.2 b2
    refine q_iload_n C 2 rfl rfl dX3_chainPromotion_5 ?_
    refine q_bipush C (by decide) dX3_chainPromotion_6 ?_
    refine q_icmp_ge (tgt := 23) C r1 (show rng 126 by decide) (by decide) dX3_chainPromotion_8 (fun b3 => ?_) (fun b3 => ?_)
    · have h := h.1 b3
      exact hret M _ _ dX3_chainPromotion_23 h
    · have h := h.2 b3
      refine q_aload_n C 0 rfl rfl dX3_chainPromotion_11 ?_
      refine q_get (v := .int (gI (M a0 10 (-1)))) C fX3_140 hk0 rfl dX3_chainPromotion_12 (fun g4 => ?_)
      have h := h g4
      refine q_aload_n C 0 rfl rfl dX3_chainPromotion_15 ?_
      obtain ⟨r5, h⟩ := h
      refine q_get (v := .ref (rh a0 9)) C fX3_59 hk0 (if_neg (Int.not_lt.mpr r5)) dX3_chainPromotion_16 (fun g6 => ?_)
      refine q_alen (t0 := 0) C hk0 rfl r5 dX3_chainPromotion_19 (fun g7 => ?_)
      have h := h g7
      have g8 : rng (ln a0 9) := ⟨by omega, by omega⟩
      refine q_icmp_lt (tgt := 24) C g4 g8 (by decide) dX3_chainPromotion_20 (fun b9 => ?_) (fun b9 => ?_)
      · have h := h.1 b9
        refine q_aload_n C 0 rfl rfl dX3_chainPromotion_24 ?_
        refine q_get (v := .ref (rh a0 9)) C fX3_59 hk0 (if_neg (Int.not_lt.mpr r5)) dX3_chainPromotion_25 (fun g10 => ?_)
        refine q_aload_n C 0 rfl rfl dX3_chainPromotion_28 ?_
        refine q_get (v := .int (gI (M a0 10 (-1)))) C fX3_140 hk0 rfl dX3_chainPromotion_29 (fun g11 => ?_)
        refine q_iload_n C 1 rfl rfl dX3_chainPromotion_32 ?_
        obtain ⟨r12, h⟩ := h
        obtain ⟨r13, h⟩ := h
        refine q_iast C hk0 rfl r13 r12 dX3_chainPromotion_33 ?_
        refine q_aload_n C 0 rfl rfl dX3_chainPromotion_34 ?_
        obtain ⟨r14, h⟩ := h
        refine q_get (v := .ref (rh a0 8)) C fX3_56 hk0 (if_neg (Int.not_lt.mpr r14)) dX3_chainPromotion_35 (fun g15 => ?_)
        refine q_aload_n C 0 rfl rfl dX3_chainPromotion_38 ?_
        refine q_get (v := .int (gI ((gu M a0 9 (M a0 10 (-1)) a1) a0 10 (-1)))) C fX3_140 hk0 rfl dX3_chainPromotion_39 (fun g16 => ?_)
        have h := h g16
        refine q_aload_n C 0 rfl rfl dX3_chainPromotion_42 ?_
        obtain ⟨r17, h⟩ := h
        refine q_get (v := .ref (rh a0 7)) C fX3_9 hk0 (if_neg (Int.not_lt.mpr r17)) dX3_chainPromotion_43 (fun g18 => ?_)
        refine q_iload_n C 2 rfl rfl dX3_chainPromotion_46 ?_
        refine q_iconst C dX3_chainPromotion_47 ?_
        refine q_iadd C dX3_chainPromotion_48 ?_
        obtain ⟨r19, h⟩ := h
        refine q_iald C hk0 rfl (fun _ q => q) r19 dX3_chainPromotion_49 (fun g20 => ?_)
        have h := h g20
        obtain ⟨r21, h⟩ := h
        refine q_iast C hk0 rfl g20 r21 dX3_chainPromotion_50 ?_
        refine q_aload_n C 0 rfl rfl dX3_chainPromotion_51 ?_
        refine q_get (v := .ref (rh a0 7)) C fX3_9 hk0 (if_neg (Int.not_lt.mpr r17)) dX3_chainPromotion_52 (fun g22 => ?_)
        refine q_iload_n C 2 rfl rfl dX3_chainPromotion_55 ?_
        refine q_iconst C dX3_chainPromotion_56 ?_
        refine q_iadd C dX3_chainPromotion_57 ?_
        refine q_aload_n C 0 rfl rfl dX3_chainPromotion_58 ?_
        refine q_get (v := .int (gI ((gu (gu M a0 9 (M a0 10 (-1)) a1) a0 8 ((gu M a0 9 (M a0 10 (-1)) a1) a0 10 (-1)) ((gu M a0 9 (M a0 10 (-1)) a1) a0 7 (a2 + 1))) a0 10 (-1)))) C fX3_140 hk0 rfl dX3_chainPromotion_59 (fun g23 => ?_)
        have h := h g23
        refine q_iast C hk0 rfl g23 r19 dX3_chainPromotion_62 ?_
        refine q_aload_n C 0 rfl rfl dX3_chainPromotion_63 ?_
        refine q_dup C rfl dX3_chainPromotion_64 ?_
        refine q_get (v := .int (gI ((gu (gu (gu M a0 9 (M a0 10 (-1)) a1) a0 8 ((gu M a0 9 (M a0 10 (-1)) a1) a0 10 (-1)) ((gu M a0 9 (M a0 10 (-1)) a1) a0 7 (a2 + 1))) a0 7 (a2 + 1) ((gu (gu M a0 9 (M a0 10 (-1)) a1) a0 8 ((gu M a0 9 (M a0 10 (-1)) a1) a0 10 (-1)) ((gu M a0 9 (M a0 10 (-1)) a1) a0 7 (a2 + 1))) a0 10 (-1))) a0 10 (-1)))) C fX3_140 hk0 rfl dX3_chainPromotion_65 (fun g24 => ?_)
        have h := h g24
        refine q_iconst C dX3_chainPromotion_68 ?_
        refine q_iadd C dX3_chainPromotion_69 ?_
        obtain ⟨r25, h⟩ := h
        refine q_put (x := (((gu (gu (gu M a0 9 (M a0 10 (-1)) a1) a0 8 ((gu M a0 9 (M a0 10 (-1)) a1) a0 10 (-1)) ((gu M a0 9 (M a0 10 (-1)) a1) a0 7 (a2 + 1))) a0 7 (a2 + 1) ((gu (gu M a0 9 (M a0 10 (-1)) a1) a0 8 ((gu M a0 9 (M a0 10 (-1)) a1) a0 10 (-1)) ((gu M a0 9 (M a0 10 (-1)) a1) a0 7 (a2 + 1))) a0 10 (-1))) a0 10 (-1)) + 1)) (ty := .int) C fX3_140 hk0 (fun _ _ _ q => by cases q; rfl) (congrArg (fun z => Value.int (gI z)) gu_s) rfl rfl r25 dX3_chainPromotion_70 ?_
        exact hret (gu (gu (gu (gu M a0 9 (M a0 10 (-1)) a1) a0 8 ((gu M a0 9 (M a0 10 (-1)) a1) a0 10 (-1)) ((gu M a0 9 (M a0 10 (-1)) a1) a0 7 (a2 + 1))) a0 7 (a2 + 1) ((gu (gu M a0 9 (M a0 10 (-1)) a1) a0 8 ((gu M a0 9 (M a0 10 (-1)) a1) a0 10 (-1)) ((gu M a0 9 (M a0 10 (-1)) a1) a0 7 (a2 + 1))) a0 10 (-1))) a0 10 (-1) (((gu (gu (gu M a0 9 (M a0 10 (-1)) a1) a0 8 ((gu M a0 9 (M a0 10 (-1)) a1) a0 10 (-1)) ((gu M a0 9 (M a0 10 (-1)) a1) a0 7 (a2 + 1))) a0 7 (a2 + 1) ((gu (gu M a0 9 (M a0 10 (-1)) a1) a0 8 ((gu M a0 9 (M a0 10 (-1)) a1) a0 10 (-1)) ((gu M a0 9 (M a0 10 (-1)) a1) a0 7 (a2 + 1))) a0 10 (-1))) a0 10 (-1)) + 1)) _ _ dX3_chainPromotion_73 h
      · have h := h.2 b9
        exact hret M _ _ dX3_chainPromotion_23 h
set_option maxHeartbeats 4000000 in
set_option maxRecDepth 100000 in
theorem mX5_pairOf (l : Launch) (D : va_G) (cy : Nat → ClassId) (kd : gKd) (ln : gLn) (rh : gRh) (post : Int → gM → Prop) (a0 : Int) (M : gM)  (h : wX5_pairOf kd ln post a0 M) : gMI l D cy yX5_pairOf cX5_pairOf 1 .int 0 0 [.int (gI a0)] kd ln rh M post := by
  refine gMI_of (own := RX5) (by decide) rfl (Nat.le_of_ble_eq_true rfl) ?_
  intro p e s m args below meth c A H0 Q C hret
  unfold wX5_pairOf at h
  refine q_iload_n C 0 rfl rfl dX5_pairOf_0 ?_
  refine q_sipush C (by decide) dX5_pairOf_1 ?_
  obtain ⟨r1, h⟩ := h
  refine q_idiv C ⟨r1.1, r1.2, by decide, by decide⟩ dX5_pairOf_4 ?_
  obtain ⟨r2, h⟩ := h
  exact hret (a0 / 128) M _ _ dX5_pairOf_5 r2 h
set_option maxHeartbeats 4000000 in
set_option maxRecDepth 100000 in
theorem mX5_manOf (l : Launch) (D : va_G) (cy : Nat → ClassId) (kd : gKd) (ln : gLn) (rh : gRh) (post : Int → gM → Prop) (a0 : Int) (M : gM)  (h : wX5_manOf kd ln post a0 M) : gMI l D cy yX5_manOf cX5_manOf 1 .int 0 0 [.int (gI a0)] kd ln rh M post := by
  refine gMI_of (own := RX5) (by decide) rfl (Nat.le_of_ble_eq_true rfl) ?_
  intro p e s m args below meth c A H0 Q C hret
  unfold wX5_manOf at h
  refine q_iload_n C 0 rfl rfl dX5_manOf_0 ?_
  refine q_sipush C (by decide) dX5_manOf_1 ?_
  obtain ⟨r1, h⟩ := h
  refine q_irem C ⟨r1.1, r1.2, by decide, by decide⟩ dX5_manOf_4 ?_
  refine q_iconst C dX5_manOf_5 ?_
  obtain ⟨r2, h⟩ := h
  refine q_idiv C ⟨r2.1, r2.2, by decide, by decide⟩ dX5_manOf_6 ?_
  obtain ⟨r3, h⟩ := h
  exact hret ((a0 % 128) / 2) M _ _ dX5_manOf_7 r3 h
set_option maxHeartbeats 4000000 in
set_option maxRecDepth 100000 in
theorem mX3_isMate (l : Launch) (D : va_G) (cy : Nat → ClassId) (kd : gKd) (ln : gLn) (rh : gRh) (post : Int → gM → Prop) (a0 : Int) (a1 : Int) (M : gM) (hk0 : kd a0 = 3) (h : wX3_isMate kd ln post a0 a1 M) : gMI l D cy yX3_isMate cX3_isMate 5 .boolean 2 47 [.ref (gad a0), .int (gI a1)] kd ln rh M post := by
  refine gMI_ofZ (own := RX3) (by decide) rfl (Nat.le_of_ble_eq_true rfl) ?_
  intro p e s m args below meth c A H0 Q C hret
  unfold wX3_isMate at h
  refine q_aload_n C 0 rfl rfl dX3_isMate_0 ?_
  refine q_get (v := gR (M a0 2 (-1))) C fX3_29 hk0 rfl dX3_isMate_1 (fun g1 => ?_)
  obtain ⟨r2, h⟩ := h
  refine q_nn r2 (by decide) ?_
  obtain ⟨r3, h⟩ := h
  refine q_get (v := .ref (rh (M a0 2 (-1)) 1)) C fX3_93 r2 (if_neg (Int.not_lt.mpr r3)) dX3_isMate_4 (fun g4 => ?_)
  refine q_iload_n C 1 rfl rfl dX3_isMate_7 ?_
  refine q_callSI (As := [.int (gI a1)]) (st := [.ref (rh (M a0 2 (-1)) 1)]) C vX3_96 kX5_pairOf ⟨by decide, by decide⟩ ⟨by decide, by decide⟩ rfl rfl (Nat.le_of_ble_eq_true rfl) (mX5_pairOf l D cy kd ln rh _ a1 M  h) dX3_isMate_8 (fun c6 M5 g7 h => ?_)
  have h := h g7
  obtain ⟨r8, h⟩ := h
  refine q_iald C r2 rfl (fun _ q => q) r8 dX3_isMate_11 (fun g9 => ?_)
  have h := h g9
  refine q_topi (fun v10 ev10 => ?_)
  have h := h v10 ev10
  have gv10 : rng v10 := by rw [ev10]; exact g9
  refine q_istore_n (lv' := [(2, .int (gI v10)), (0, .ref (gad a0)), (1, .int (gI a1))]) C rfl (by decide) rfl dX3_isMate_12 ?_
  refine q_aload_n C 1 rfl rfl dX3_isMate_13 ?_
  refine q_get (v := gR (M5 a0 2 (-1))) C fX3_29 hk0 rfl dX3_isMate_14 (fun g11 => ?_)
  obtain ⟨r12, h⟩ := h
  refine q_nn r12 (by decide) ?_
  obtain ⟨r13, h⟩ := h
  refine q_get (v := .ref (rh (M5 a0 2 (-1)) 2)) C fX3_100 r12 (if_neg (Int.not_lt.mpr r13)) dX3_isMate_17 (fun g14 => ?_)
  refine q_iload_n C 2 rfl rfl dX3_isMate_20 ?_
  refine q_callSI (As := [.int (gI a1)]) (st := [.ref (rh (M5 a0 2 (-1)) 2)]) C vX3_96 kX5_pairOf ⟨by decide, by decide⟩ ⟨by decide, by decide⟩ rfl rfl (Nat.le_of_ble_eq_true rfl) (mX5_pairOf l D cy kd ln rh _ a1 M5  h) dX3_isMate_21 (fun c16 M15 g17 h => ?_)
  have h := h g17
  obtain ⟨r18, h⟩ := h
  refine q_iald C r12 rfl (fun _ q => q) r18 dX3_isMate_24 (fun g19 => ?_)
  have h := h g19
  refine q_topi (fun v20 ev20 => ?_)
  have h := h v20 ev20
  have gv20 : rng v20 := by rw [ev20]; exact g19
  refine q_istore_n (lv' := [(3, .int (gI v20)), (2, .int (gI v10)), (0, .ref (gad a0)), (1, .int (gI a1))]) C rfl (by decide) rfl dX3_isMate_25 ?_
  refine q_iload_n C 3 rfl rfl dX3_isMate_26 ?_
  refine q_callSI (As := [.int (gI a1)]) (st := []) C vX3_103 kX5_manOf ⟨by decide, by decide⟩ ⟨by decide, by decide⟩ rfl rfl (Nat.le_of_ble_eq_true rfl) (mX5_manOf l D cy kd ln rh _ a1 M15  h) dX3_isMate_27 (fun c22 M21 g23 h => ?_)
  have h := h g23
  refine q_istore (lv' := [(4, .int (gI c22)), (3, .int (gI v20)), (2, .int (gI v10)), (0, .ref (gad a0)), (1, .int (gI a1))]) C (by decide) rfl dX3_isMate_30 ?_
  refine q_aload_n C 3 rfl rfl dX3_isMate_32 ?_
  refine q_get (v := gR (M21 a0 0 (-1))) C fX3_15 hk0 rfl dX3_isMate_33 (fun g24 => ?_)
  obtain ⟨r25, h⟩ := h
  refine q_nn r25 (by decide) ?_
  refine q_aload_n C 3 rfl rfl dX3_isMate_36 ?_
  refine q_get (v := .int (gI (M21 a0 4 (-1)))) C fX3_39 hk0 rfl dX3_isMate_37 (fun g26 => ?_)
  have h := h g26
  refine q_iload_n C 2 rfl rfl dX3_isMate_40 ?_
  refine q_iload_n C 1 rfl rfl dX3_isMate_41 ?_
  refine q_iload C 0 rfl dX3_isMate_42 ?_
  refine q_callVI (As := [.int (gI (M21 a0 4 (-1))), .int (gI v10), .int (gI v20), .int (gI c22)]) (st := []) C vX3_106 kX0_attacks ⟨by decide, by decide⟩ ⟨by decide, by decide⟩ rfl r25 ⟨_, _, rfl⟩ (by decide) rfl (Nat.le_of_ble_eq_true rfl) (mX0_attacks l D cy kd ln rh _ (M21 a0 0 (-1)) (M21 a0 4 (-1)) v10 v20 c22 M21 r25 h) dX3_isMate_44 (fun c28 M27 g29 h => ?_)
  have h := h g29
  refine q_if_eq (tgt := 74) C g29 (by decide) dX3_isMate_47 (fun b30 => ?_) (fun b30 => ?_)
  · have h := h.1 b30
    refine q_iconst C dX3_isMate_74 ?_
    exact hret 0 M27 _ _ dX3_isMate_75 (Or.inl rfl) h
  · have h := h.2 b30
    refine q_aload_n C 3 rfl rfl dX3_isMate_50 ?_
    refine q_get (v := gR (M27 a0 0 (-1))) C fX3_15 hk0 rfl dX3_isMate_51 (fun g31 => ?_)
    obtain ⟨r32, h⟩ := h
    refine q_nn r32 (by decide) ?_
    refine q_aload_n C 3 rfl rfl dX3_isMate_54 ?_
    refine q_get (v := .int (gI (M27 a0 4 (-1)))) C fX3_39 hk0 rfl dX3_isMate_55 (fun g33 => ?_)
    have h := h g33
    refine q_iload_n C 2 rfl rfl dX3_isMate_58 ?_
    refine q_iload_n C 1 rfl rfl dX3_isMate_59 ?_
    refine q_iload C 0 rfl dX3_isMate_60 ?_
    refine q_callVL (As := [.int (gI (M27 a0 4 (-1))), .int (gI v10), .int (gI v20), .int (gI c22)]) (st := []) C vX3_110 kX0_blackTargets ⟨by decide, by decide⟩ ⟨by decide, by decide⟩ rfl r32 ⟨_, _, rfl⟩ (by decide) rfl (Nat.le_of_ble_eq_true rfl) (mX0_blackTargets l D cy kd ln rh _ (M27 a0 0 (-1)) (M27 a0 4 (-1)) v10 v20 c22 M27 r32 h) dX3_isMate_62 (fun c35 M34 h => ?_)
    refine q_lconst (b := 0) C rfl dX3_isMate_65 ?_
    refine q_lcmp C dX3_isMate_66 ?_
    refine q_if_ne (tgt := 74) C (rng_of _) (by decide) dX3_isMate_67 (fun b37 => ?_) (fun b37 => ?_)
    · have h := h.1 b37
      refine q_iconst C dX3_isMate_74 ?_
      exact hret 0 M34 _ _ dX3_isMate_75 (Or.inl rfl) h
    · have h := h.2 b37
      refine q_iconst C dX3_isMate_70 ?_
      refine q_goto (tgt := 75) C (by decide) dX3_isMate_71 ?_
      exact hret 1 M34 _ _ dX3_isMate_75 (Or.inr rfl) h
set_option maxHeartbeats 4000000 in
set_option maxRecDepth 100000 in
theorem mX3_settle (l : Launch) (D : va_G) (cy : Nat → ClassId) (kd : gKd) (ln : gLn) (rh : gRh) (post : gM → Prop) (a0 : Int) (a1 : Int) (a2 : Int) (M : gM) (hk0 : kd a0 = 3) (h : wX3_settle kd ln post a0 a1 a2 M) : gMV l D cy yX3_settle cX3_settle 3 0 0 [.ref (gad a0), .int (gI a1), .int (gI a2)] kd ln rh M post := by
  refine gMV_of (own := RX3) (by decide) rfl (Nat.le_of_ble_eq_true rfl) ?_
  intro p e s m args below meth c A H0 Q C hret
  unfold wX3_settle at h
  refine q_iload_n C 1 rfl rfl dX3_settle_0 ?_
  refine q_iconst C dX3_settle_1 ?_
  obtain ⟨r1, h⟩ := h
  refine q_icmp_eq (tgt := 55) C r1 (show rng (-1) by decide) (by decide) dX3_settle_2 (fun b2 => ?_) (fun b2 => ?_)
  · have h := h.1 b2
    exact hret M _ _ dX3_settle_55 h
  · have h := h.2 b2
    refine q_aload_n C 0 rfl rfl dX3_settle_5 ?_
    obtain ⟨r4, h⟩ := h
    obtain ⟨r5, h⟩ := h
    obtain ⟨r6, h⟩ := h
    refine q_get (v := .ref (rh (M a0 3 (-1)) 1)) C fX3_34 hk0 (if_neg r4) dX3_settle_6 (fun g3 => ?_)
    refine q_iload_n C 1 rfl rfl dX3_settle_9 ?_
    obtain ⟨r7, h⟩ := h
    refine q_bald C r5 rfl (fun _ q => q) r7 dX3_settle_10 (fun g8 => ?_)
    have h := h g8
    refine q_iconst C dX3_settle_11 ?_
    refine q_icmp_ne (tgt := 55) C g8 (show rng (-1) by decide) (by decide) dX3_settle_12 (fun b9 => ?_) (fun b9 => ?_)
    · have h := h.1 b9
      exact hret M _ _ dX3_settle_55 h
    · have h := h.2 b9
      refine q_aload_n C 0 rfl rfl dX3_settle_15 ?_
      refine q_get (v := .int (gI (M a0 6 (-1)))) C fX3_79 hk0 rfl dX3_settle_16 (fun g10 => ?_)
      have h := h g10
      refine q_aload_n C 0 rfl rfl dX3_settle_19 ?_
      obtain ⟨r11, h⟩ := h
      refine q_get (v := .ref (rh a0 5)) C fX3_44 hk0 (if_neg (Int.not_lt.mpr r11)) dX3_settle_20 (fun g12 => ?_)
      refine q_alen (t0 := 0) C hk0 rfl r11 dX3_settle_23 (fun g13 => ?_)
      have h := h g13
      have g14 : rng (ln a0 5) := ⟨by omega, by omega⟩
      refine q_icmp_ge (tgt := 55) C g10 g14 (by decide) dX3_settle_24 (fun b15 => ?_) (fun b15 => ?_)
      · have h := h.1 b15
        exact hret M _ _ dX3_settle_55 h
      · have h := h.2 b15
        refine q_aload_n C 0 rfl rfl dX3_settle_27 ?_
        refine q_get (v := .ref (rh (M a0 3 (-1)) 1)) C fX3_34 hk0 (if_neg r4) dX3_settle_28 (fun g16 => ?_)
        refine q_iload_n C 1 rfl rfl dX3_settle_31 ?_
        refine q_iload_n C 2 rfl rfl dX3_settle_32 ?_
        refine q_i2b C dX3_settle_33 ?_
        obtain ⟨r17, h⟩ := h
        refine q_bast C r5 rfl (rng8 r17) r17 r7 dX3_settle_34 ?_
        refine q_aload_n C 0 rfl rfl dX3_settle_35 ?_
        refine q_get (v := .ref (rh a0 5)) C fX3_44 hk0 (if_neg (Int.not_lt.mpr r11)) dX3_settle_36 (fun g18 => ?_)
        refine q_aload_n C 0 rfl rfl dX3_settle_39 ?_
        refine q_get (v := .int (gI ((gu M (M a0 3 (-1)) 1 a1 (gi2b a2)) a0 6 (-1)))) C fX3_79 hk0 rfl dX3_settle_40 (fun g19 => ?_)
        have h := h g19
        refine q_iload_n C 1 rfl rfl dX3_settle_43 ?_
        obtain ⟨r20, h⟩ := h
        refine q_iast C hk0 rfl r1 r20 dX3_settle_44 ?_
        refine q_aload_n C 0 rfl rfl dX3_settle_45 ?_
        refine q_dup C rfl dX3_settle_46 ?_
        refine q_get (v := .int (gI ((gu (gu M (M a0 3 (-1)) 1 a1 (gi2b a2)) a0 5 ((gu M (M a0 3 (-1)) 1 a1 (gi2b a2)) a0 6 (-1)) a1) a0 6 (-1)))) C fX3_79 hk0 rfl dX3_settle_47 (fun g21 => ?_)
        have h := h g21
        refine q_iconst C dX3_settle_50 ?_
        refine q_iadd C dX3_settle_51 ?_
        obtain ⟨r22, h⟩ := h
        refine q_put (x := (((gu (gu M (M a0 3 (-1)) 1 a1 (gi2b a2)) a0 5 ((gu M (M a0 3 (-1)) 1 a1 (gi2b a2)) a0 6 (-1)) a1) a0 6 (-1)) + 1)) (ty := .int) C fX3_79 hk0 (fun _ _ _ q => by cases q; rfl) (congrArg (fun z => Value.int (gI z)) gu_s) rfl rfl r22 dX3_settle_52 ?_
        exact hret (gu (gu (gu M (M a0 3 (-1)) 1 a1 (gi2b a2)) a0 5 ((gu M (M a0 3 (-1)) 1 a1 (gi2b a2)) a0 6 (-1)) a1) a0 6 (-1) (((gu (gu M (M a0 3 (-1)) 1 a1 (gi2b a2)) a0 5 ((gu M (M a0 3 (-1)) 1 a1 (gi2b a2)) a0 6 (-1)) a1) a0 6 (-1)) + 1)) _ _ dX3_settle_55 h
set_option maxHeartbeats 4000000 in
set_option maxRecDepth 100000 in
theorem mX3_findMates (l : Launch) (D : va_G) (cy : Nat → ClassId) (kd : gKd) (ln : gLn) (rh : gRh) (post : gM → Prop) (a0 : Int) (M : gM) (hk0 : kd a0 = 3) (h : wX3_findMates kd ln post a0 M) : gMV l D cy yX3_findMates cX3_findMates 2 3 71 [.ref (gad a0)] kd ln rh M post := by
  refine gMV_of (own := RX3) (by decide) rfl (Nat.le_of_ble_eq_true rfl) ?_
  intro p e s m args below meth c A H0 Q C hret
  have t35 : ∀ (k2 : Int → gM → Prop), (∀ (x1 : Int), ∀ (M : gM), k2 x1 M → gW p l e (gRm 3 71) s m args below meth c D cy A H0 Q 2 kd ln rh 0 0 M 2 [(0, .ref (gad a0)), (1, .int (gI x1))] []) → ∀ (x1 : Int) (M : gM), wX3_findMates_35 kd ln post a0 k2 x1 M → gW p l e (gRm 3 71) s m args below meth c D cy A H0 Q 2 kd ln rh 0 0 M 35 [(0, .ref (gad a0)), (1, .int (gI x1))] [] := by
    intro k2 hk2_ x1 M h
    unfold wX3_findMates_35 at h
    refine q_iinc (lv' := [(1, .int (gI (x1 + 2))), (0, .ref (gad a0))]) C 1 rfl (by decide) rfl dX3_findMates_35 ?_
    refine q_goto (tgt := 2) C (by decide) dX3_findMates_38 ?_
    refine q_lv (lv' := [(0, .ref (gad a0)), (1, .int (gI (x1 + 2)))]) [1, 0] rfl ?_
    exact hk2_ (x1 + 2) M h
  have t2 : ∀ (n : Nat) (x1 : Int) (M : gM), wX3_findMates_2 kd ln post a0 n x1 M → gW p l e (gRm 3 71) s m args below meth c D cy A H0 Q 2 kd ln rh 0 0 M 2 [(0, .ref (gad a0)), (1, .int (gI x1))] [] := by
    intro n
    induction n with
    | zero => intro x1 M h; exact absurd h (by simp [wX3_findMates_2])
    | succ n ih =>
      intro x1 M h
      have hk2_ := ih
      rw [wX3_findMates_2] at h
      refine q_iload_n C 1 rfl rfl dX3_findMates_2 ?_
      refine q_aload_n C 0 rfl rfl dX3_findMates_3 ?_
      obtain ⟨r2, h⟩ := h
      obtain ⟨r3, h⟩ := h
      obtain ⟨r4, h⟩ := h
      refine q_get (v := .ref (rh (M a0 3 (-1)) 1)) C fX3_34 hk0 (if_neg r2) dX3_findMates_4 (fun g1 => ?_)
      refine q_alen (t0 := 1) C r3 rfl r4 dX3_findMates_7 (fun g5 => ?_)
      have h := h g5
      have g6 : rng (ln (M a0 3 (-1)) 1) := ⟨by omega, by omega⟩
      obtain ⟨r7, h⟩ := h
      refine q_icmp_ge (tgt := 41) C r7 g6 (by decide) dX3_findMates_8 (fun b8 => ?_) (fun b8 => ?_)
      · have h := h.1 b8
        exact hret M _ _ dX3_findMates_41 h
      · have h := h.2 b8
        refine q_aload_n C 0 rfl rfl dX3_findMates_11 ?_
        refine q_get (v := .ref (rh (M a0 3 (-1)) 1)) C fX3_34 hk0 (if_neg r2) dX3_findMates_12 (fun g9 => ?_)
        refine q_iload_n C 1 rfl rfl dX3_findMates_15 ?_
        obtain ⟨r10, h⟩ := h
        refine q_bald C r3 rfl (fun _ q => q) r10 dX3_findMates_16 (fun g11 => ?_)
        have h := h g11
        refine q_iconst C dX3_findMates_17 ?_
        refine q_icmp_ne (tgt := 35) C g11 (show rng (-1) by decide) (by decide) dX3_findMates_18 (fun b12 => ?_) (fun b12 => ?_)
        · have h := h.1 b12
          exact t35 (wX3_findMates_2 kd ln post a0 n) hk2_ x1 M h
        · have h := h.2 b12
          refine q_aload_n C 0 rfl rfl dX3_findMates_21 ?_
          refine q_iload_n C 1 rfl rfl dX3_findMates_22 ?_
          refine q_callVI (As := [.int (gI x1)]) (st := []) C vX3_86 kX3_isMate ⟨by decide, by decide⟩ ⟨by decide, by decide⟩ rfl hk0 ⟨_, _, rfl⟩ (by decide) rfl (Nat.le_of_ble_eq_true rfl) (mX3_isMate l D cy kd ln rh _ a0 x1 M hk0 h) dX3_findMates_23 (fun c14 M13 g15 h => ?_)
          have h := h g15
          refine q_if_eq (tgt := 35) C g15 (by decide) dX3_findMates_26 (fun b16 => ?_) (fun b16 => ?_)
          · have h := h.1 b16
            exact t35 (wX3_findMates_2 kd ln post a0 n) hk2_ x1 M13 h
          · have h := h.2 b16
            refine q_aload_n C 0 rfl rfl dX3_findMates_29 ?_
            refine q_iload_n C 1 rfl rfl dX3_findMates_30 ?_
            refine q_iconst C dX3_findMates_31 ?_
            refine q_callVV (As := [.int (gI x1), .int (gI 0)]) (st := []) C vX3_90 kX3_settle ⟨by decide, by decide⟩ ⟨by decide, by decide⟩ rfl hk0 ⟨_, _, rfl⟩ (by decide) rfl (Nat.le_of_ble_eq_true rfl) (mX3_settle l D cy kd ln rh _ a0 x1 0 M13 hk0 h) dX3_findMates_32 (fun M17 h => ?_)
            exact t35 (wX3_findMates_2 kd ln post a0 n) hk2_ x1 M17 h
  unfold wX3_findMates at h
  refine q_iconst C dX3_findMates_0 ?_
  refine q_istore_n (lv' := [(1, .int (gI 1)), (0, .ref (gad a0))]) C rfl (by decide) rfl dX3_findMates_1 ?_
  refine q_lv (lv' := [(0, .ref (gad a0)), (1, .int (gI 1))]) [1, 0] rfl ?_
  obtain ⟨j2, h⟩ := h
  exact t2  j2 1 M h
set_option maxHeartbeats 4000000 in
set_option maxRecDepth 100000 in
theorem mX5_look (l : Launch) (D : va_G) (cy : Nat → ClassId) (kd : gKd) (ln : gLn) (rh : gRh) (post : Int → gM → Prop) (a0 : Int) (a1 : Int) (a2 : Int) (a3 : Int) (a4 : Int) (M : gM) (hk0 : kd a0 = 5) (h : wX5_look kd ln post a0 a1 a2 a3 a4 M) : gMI l D cy yX5_look cX5_look 6 .int 2 49 [.ref (gad a0), .int (gI a1), .int (gI a2), .int (gI a3), .int (gI a4)] kd ln rh M post := by
  refine gMI_of (own := RX5) (by decide) rfl (Nat.le_of_ble_eq_true rfl) ?_
  intro p e s m args below meth c A H0 Q C hret
  have t30 : ∀ (M : gM), wX5_look_30 kd ln post a0 a1 a2 a3 a4  M → gW p l e (gRm 2 49) s m args below meth c D cy A H0 Q 6 kd ln rh 0 0 M 30 [] [] := by
    intro   M h
    unfold wX5_look_30 at h
    refine q_iconst C dX5_look_30 ?_
    refine q_goto (tgt := 41) C (by decide) dX5_look_31 ?_
    exact hret (-1) M _ _ dX5_look_41 (show rng (-1) by decide) h
  unfold wX5_look at h
  refine q_aload_n C 0 rfl rfl dX5_look_0 ?_
  refine q_get (v := gR (M a0 2 (-1))) C fX5_35 hk0 rfl dX5_look_1 (fun g1 => ?_)
  obtain ⟨r2, h⟩ := h
  refine q_nn r2 (by decide) ?_
  refine q_iload_n C 1 rfl rfl dX5_look_4 ?_
  refine q_iload_n C 2 rfl rfl dX5_look_5 ?_
  refine q_iload_n C 3 rfl rfl dX5_look_6 ?_
  refine q_iload C 4 rfl dX5_look_7 ?_
  refine q_callVI (As := [.int (gI a1), .int (gI a2), .int (gI a3), .int (gI a4)]) (st := []) C vX5_76 kX2_cellOf ⟨by decide, by decide⟩ ⟨by decide, by decide⟩ rfl r2 ⟨_, _, rfl⟩ (by decide) rfl (Nat.le_of_ble_eq_true rfl) (mX2_cellOf l D cy kd ln rh _ (M a0 2 (-1)) a1 a2 a3 a4 M r2 h) dX5_look_9 (fun c4 M3 g5 h => ?_)
  have h := h g5
  refine q_istore (lv' := [(5, .int (gI c4)), (0, .ref (gad a0)), (1, .int (gI a1)), (2, .int (gI a2)), (3, .int (gI a3)), (4, .int (gI a4))]) C (by decide) rfl dX5_look_12 ?_
  refine q_iload C 0 rfl dX5_look_14 ?_
  refine q_iconst C dX5_look_16 ?_
  refine q_icmp_eq (tgt := 30) C g5 (show rng (-1) by decide) (by decide) dX5_look_17 (fun b6 => ?_) (fun b6 => ?_)
  · have h := h.1 b6
    refine q_lv (lv' := []) [] rfl ?_
    exact t30  M3 h
  · have h := h.2 b6
    refine q_aload_n C 1 rfl rfl dX5_look_20 ?_
    obtain ⟨r7, h⟩ := h
    refine q_get (v := .ref (rh a0 1)) C fX5_44 hk0 (if_neg (Int.not_lt.mpr r7)) dX5_look_21 (fun g8 => ?_)
    refine q_iload C 0 rfl dX5_look_24 ?_
    obtain ⟨r9, h⟩ := h
    refine q_bald C hk0 rfl (fun _ q => q) r9 dX5_look_26 (fun g10 => ?_)
    have h := h g10
    refine q_if_ge (tgt := 34) C g10 (by decide) dX5_look_27 (fun b11 => ?_) (fun b11 => ?_)
    · have h := h.1 b11
      refine q_aload_n C 1 rfl rfl dX5_look_34 ?_
      refine q_get (v := .ref (rh a0 1)) C fX5_44 hk0 (if_neg (Int.not_lt.mpr r7)) dX5_look_35 (fun g12 => ?_)
      refine q_iload C 0 rfl dX5_look_38 ?_
      refine q_bald C hk0 rfl (fun _ q => q) r9 dX5_look_40 (fun g13 => ?_)
      exact hret (M3 a0 1 c4) M3 _ _ dX5_look_41 g10 h
    · have h := h.2 b11
      refine q_lv (lv' := []) [] rfl ?_
      exact t30  M3 h
set_option maxHeartbeats 4000000 in
set_option maxRecDepth 100000 in
theorem mX3_lesserDistance (l : Launch) (D : va_G) (cy : Nat → ClassId) (kd : gKd) (ln : gLn) (rh : gRh) (post : Int → gM → Prop) (a0 : Int) (a1 : Int) (M : gM)  (h : wX3_lesserDistance kd ln post a0 a1 M) : gMI l D cy yX3_lesserDistance cX3_lesserDistance 2 .int 1 21 [.int (gI a0), .int (gI a1)] kd ln rh M post := by
  refine gMI_of (own := RX3) (by decide) rfl (Nat.le_of_ble_eq_true rfl) ?_
  intro p e s m args below meth c A H0 Q C hret
  have t10 : ∀ (M : gM), wX3_lesserDistance_10 kd ln post a0 a1  M → gW p l e (gRm 1 21) s m args below meth c D cy A H0 Q 2 kd ln rh 0 0 M 10 [(0, .int (gI a0)), (1, .int (gI a1))] [] := by
    intro   M h
    unfold wX3_lesserDistance_10 at h
    refine q_iload_n C 0 rfl rfl dX3_lesserDistance_10 ?_
    refine q_iload_n C 1 rfl rfl dX3_lesserDistance_11 ?_
    obtain ⟨r6, h⟩ := h
    obtain ⟨r7, h⟩ := h
    refine q_mmax C r6 r7 jX3_132 (by decide) (Nat.le_of_ble_eq_true rfl) ⟨Nat.le_refl _, Nat.le_refl _⟩ dX3_lesserDistance_12 ?_
    obtain ⟨r8, h⟩ := h
    exact hret (if a0 < a1 then a1 else a0) M _ _ dX3_lesserDistance_15 r8 h
  unfold wX3_lesserDistance at h
  refine q_iload_n C 0 rfl rfl dX3_lesserDistance_0 ?_
  refine q_iconst C dX3_lesserDistance_1 ?_
  obtain ⟨r1, h⟩ := h
  refine q_icmp_eq (tgt := 10) C r1 (show rng (-1) by decide) (by decide) dX3_lesserDistance_2 (fun b2 => ?_) (fun b2 => ?_)
  · have h := h.1 b2
    exact t10  M h
  · have h := h.2 b2
    refine q_iload_n C 1 rfl rfl dX3_lesserDistance_5 ?_
    refine q_iconst C dX3_lesserDistance_6 ?_
    obtain ⟨r3, h⟩ := h
    refine q_icmp_ne (tgt := 16) C r3 (show rng (-1) by decide) (by decide) dX3_lesserDistance_7 (fun b4 => ?_) (fun b4 => ?_)
    · have h := h.1 b4
      refine q_iload_n C 0 rfl rfl dX3_lesserDistance_16 ?_
      refine q_iload_n C 1 rfl rfl dX3_lesserDistance_17 ?_
      refine q_mmin C r1 r3 jX3_137 (by decide) (Nat.le_of_ble_eq_true rfl) ⟨Nat.le_refl _, Nat.le_refl _⟩ dX3_lesserDistance_18 ?_
      obtain ⟨r5, h⟩ := h
      exact hret (if a1 < a0 then a1 else a0) M _ _ dX3_lesserDistance_21 r5 h
    · have h := h.2 b4
      exact t10  M h
set_option maxHeartbeats 4000000 in
set_option maxRecDepth 100000 in
theorem mX3_findPromotions (l : Launch) (D : va_G) (cy : Nat → ClassId) (kd : gKd) (ln : gLn) (rh : gRh) (post : gM → Prop) (a0 : Int) (a1 : Int) (a2 : Int) (M : gM) (hk0 : kd a0 = 3) (hk1 : kd a1 = 5) (hk2 : kd a2 = 5) (h : wX3_findPromotions kd ln post a0 a1 a2 M) : gMV l D cy yX3_findPromotions cX3_findPromotions 10 3 74 [.ref (gad a0), .ref (gad a1), .ref (gad a2)] kd ln rh M post := by
  refine gMV_of (own := RX3) (by decide) rfl (Nat.le_of_ble_eq_true rfl) ?_
  intro p e s m args below meth c A H0 Q C hret
  have t145 : ∀ (k2 : Int → gM → Prop), (∀ (x3 : Int), ∀ (M : gM), k2 x3 M → gW p l e (gRm 3 74) s m args below meth c D cy A H0 Q 10 kd ln rh 0 0 M 2 [(0, .ref (gad a0)), (1, .ref (gad a1)), (2, .ref (gad a2)), (3, .int (gI x3))] []) → ∀ (k52 : Int → Int → Int → Int → gM → Prop), (∀ (x3 : Int), ∀ (x4 : Int), ∀ (x5 : Int), ∀ (x6 : Int), ∀ (M : gM), k52 x3 x4 x5 x6 M → gW p l e (gRm 3 74) s m args below meth c D cy A H0 Q 10 kd ln rh 0 0 M 52 [(0, .ref (gad a0)), (1, .ref (gad a1)), (2, .ref (gad a2)), (3, .int (gI x3)), (4, .int (gI x4)), (5, .int (gI x5)), (6, .int (gI x6))] []) → ∀ (x3 : Int) (x4 : Int) (x5 : Int) (x6 : Int) (M : gM), wX3_findPromotions_145 kd ln post a0 a1 a2 k2 k52 x3 x4 x5 x6 M → gW p l e (gRm 3 74) s m args below meth c D cy A H0 Q 10 kd ln rh 0 0 M 145 [(0, .ref (gad a0)), (1, .ref (gad a1)), (2, .ref (gad a2)), (3, .int (gI x3)), (4, .int (gI x4)), (5, .int (gI x5)), (6, .int (gI x6))] [] := by
    intro k2 hk2_ k52 hk52_ x3 x4 x5 x6 M h
    unfold wX3_findPromotions_145 at h
    refine q_iinc (lv' := [(6, .int (gI (x6 + 1))), (0, .ref (gad a0)), (1, .ref (gad a1)), (2, .ref (gad a2)), (3, .int (gI x3)), (4, .int (gI x4)), (5, .int (gI x5))]) C 6 rfl (by decide) rfl dX3_findPromotions_145 ?_
    refine q_goto (tgt := 52) C (by decide) dX3_findPromotions_148 ?_
    refine q_lv (lv' := [(0, .ref (gad a0)), (1, .ref (gad a1)), (2, .ref (gad a2)), (3, .int (gI x3)), (4, .int (gI x4)), (5, .int (gI x5)), (6, .int (gI (x6 + 1)))]) [1, 2, 3, 4, 5, 6, 0] rfl ?_
    exact hk52_ x3 x4 x5 (x6 + 1) M h
  have t52 : ∀ (k2 : Int → gM → Prop), (∀ (x3 : Int), ∀ (M : gM), k2 x3 M → gW p l e (gRm 3 74) s m args below meth c D cy A H0 Q 10 kd ln rh 0 0 M 2 [(0, .ref (gad a0)), (1, .ref (gad a1)), (2, .ref (gad a2)), (3, .int (gI x3))] []) → ∀ (n : Nat) (x3 : Int) (x4 : Int) (x5 : Int) (x6 : Int) (M : gM), wX3_findPromotions_52 kd ln post a0 a1 a2 k2 n x3 x4 x5 x6 M → gW p l e (gRm 3 74) s m args below meth c D cy A H0 Q 10 kd ln rh 0 0 M 52 [(0, .ref (gad a0)), (1, .ref (gad a1)), (2, .ref (gad a2)), (3, .int (gI x3)), (4, .int (gI x4)), (5, .int (gI x5)), (6, .int (gI x6))] [] := by
    intro k2 hk2_
    intro n
    induction n with
    | zero => intro x3 x4 x5 x6 M h; exact absurd h (by simp [wX3_findPromotions_52])
    | succ n ih =>
      intro x3 x4 x5 x6 M h
      have hk52_ := ih
      rw [wX3_findPromotions_52] at h
      refine q_iload C 6 rfl dX3_findPromotions_52 ?_
      refine q_aload_n C 0 rfl rfl dX3_findPromotions_54 ?_
      refine q_get (v := gR (M a0 0 (-1))) C fX3_15 hk0 rfl dX3_findPromotions_55 (fun g24 => ?_)
      obtain ⟨r25, h⟩ := h
      refine q_nn r25 (by decide) ?_
      refine q_get (v := .int (gI (M (M a0 0 (-1)) 1 (-1)))) C fX3_114 r25 rfl dX3_findPromotions_58 (fun g26 => ?_)
      have h := h g26
      obtain ⟨r27, h⟩ := h
      refine q_icmp_ge (tgt := 151) C r27 g26 (by decide) dX3_findPromotions_61 (fun b28 => ?_) (fun b28 => ?_)
      · have h := h.1 b28
        refine q_iinc (lv' := [(3, .int (gI (x3 + 1))), (0, .ref (gad a0)), (1, .ref (gad a1)), (2, .ref (gad a2)), (4, .int (gI x4)), (5, .int (gI x5)), (6, .int (gI x6))]) C 3 rfl (by decide) rfl dX3_findPromotions_151 ?_
        refine q_goto (tgt := 2) C (by decide) dX3_findPromotions_154 ?_
        refine q_lv (lv' := [(0, .ref (gad a0)), (1, .ref (gad a1)), (2, .ref (gad a2)), (3, .int (gI (x3 + 1)))]) [1, 2, 3, 0] rfl ?_
        exact hk2_ (x3 + 1) M h
      · have h := h.2 b28
        refine q_iload_n C 3 rfl rfl dX3_findPromotions_64 ?_
        refine q_iload C 6 rfl dX3_findPromotions_65 ?_
        refine q_aload_n C 0 rfl rfl dX3_findPromotions_67 ?_
        refine q_get (v := gR (M a0 0 (-1))) C fX3_15 hk0 rfl dX3_findPromotions_68 (fun g29 => ?_)
        refine q_nn r25 (by decide) ?_
        refine q_get (v := .int (gI (M (M a0 0 (-1)) 0 (-1)))) C fX3_51 r25 rfl dX3_findPromotions_71 (fun g30 => ?_)
        have h := h g30
        refine q_isub C dX3_findPromotions_74 ?_
        refine q_iconst C dX3_findPromotions_75 ?_
        refine q_callSI (As := [.int (gI x3), .int (gI (x6 - (M (M a0 0 (-1)) 0 (-1)))), .int (gI 0)]) (st := []) C vX3_117 kX5_cellAt ⟨by decide, by decide⟩ ⟨by decide, by decide⟩ rfl rfl (Nat.le_of_ble_eq_true rfl) (mX5_cellAt l D cy kd ln rh _ x3 (x6 - (M (M a0 0 (-1)) 0 (-1))) 0 M  h) dX3_findPromotions_76 (fun c32 M31 g33 h => ?_)
        have h := h g33
        refine q_istore (lv' := [(7, .int (gI c32)), (0, .ref (gad a0)), (1, .ref (gad a1)), (2, .ref (gad a2)), (3, .int (gI x3)), (4, .int (gI x4)), (5, .int (gI x5)), (6, .int (gI x6))]) C (by decide) rfl dX3_findPromotions_79 ?_
        refine q_aload_n C 1 rfl rfl dX3_findPromotions_81 ?_
        obtain ⟨r35, h⟩ := h
        obtain ⟨r36, h⟩ := h
        obtain ⟨r37, h⟩ := h
        refine q_get (v := .ref (rh (M31 a0 3 (-1)) 1)) C fX3_34 hk0 (if_neg r35) dX3_findPromotions_82 (fun g34 => ?_)
        refine q_iload C 0 rfl dX3_findPromotions_85 ?_
        obtain ⟨r38, h⟩ := h
        refine q_bald C r36 rfl (fun _ q => q) r38 dX3_findPromotions_87 (fun g39 => ?_)
        have h := h g39
        refine q_iconst C dX3_findPromotions_88 ?_
        refine q_icmp_ne (tgt := 145) C g39 (show rng (-1) by decide) (by decide) dX3_findPromotions_89 (fun b40 => ?_) (fun b40 => ?_)
        · have h := h.1 b40
          refine q_lv (lv' := [(0, .ref (gad a0)), (1, .ref (gad a1)), (2, .ref (gad a2)), (3, .int (gI x3)), (4, .int (gI x4)), (5, .int (gI x5)), (6, .int (gI x6))]) [1, 2, 3, 4, 5, 6, 7] rfl ?_
          exact t145 k2 hk2_ (wX3_findPromotions_52 kd ln post a0 a1 a2 k2 n) hk52_ x3 x4 x5 x6 M31 h
        · have h := h.2 b40
          refine q_iload C 7 rfl dX3_findPromotions_92 ?_
          refine q_iload C 5 rfl dX3_findPromotions_94 ?_
          obtain ⟨r41, h⟩ := h
          refine q_icmp_eq (tgt := 145) C r27 r41 (by decide) dX3_findPromotions_96 (fun b42 => ?_) (fun b42 => ?_)
          · have h := h.1 b42
            refine q_lv (lv' := [(0, .ref (gad a0)), (1, .ref (gad a1)), (2, .ref (gad a2)), (3, .int (gI x3)), (4, .int (gI x4)), (5, .int (gI x5)), (6, .int (gI x6))]) [1, 2, 3, 4, 5, 6, 7] rfl ?_
            exact t145 k2 hk2_ (wX3_findPromotions_52 kd ln post a0 a1 a2 k2 n) hk52_ x3 x4 x5 x6 M31 h
          · have h := h.2 b42
            refine q_iload C 7 rfl dX3_findPromotions_99 ?_
            refine q_iload C 6 rfl dX3_findPromotions_101 ?_
            obtain ⟨r43, h⟩ := h
            refine q_icmp_eq (tgt := 145) C r27 r43 (by decide) dX3_findPromotions_103 (fun b44 => ?_) (fun b44 => ?_)
            · have h := h.1 b44
              refine q_lv (lv' := [(0, .ref (gad a0)), (1, .ref (gad a1)), (2, .ref (gad a2)), (3, .int (gI x3)), (4, .int (gI x4)), (5, .int (gI x5)), (6, .int (gI x6))]) [1, 2, 3, 4, 5, 6, 7] rfl ?_
              exact t145 k2 hk2_ (wX3_findPromotions_52 kd ln post a0 a1 a2 k2 n) hk52_ x3 x4 x5 x6 M31 h
            · have h := h.2 b44
              refine q_aload_n C 2 rfl rfl dX3_findPromotions_106 ?_
              refine q_iload C 5 rfl dX3_findPromotions_107 ?_
              refine q_iload C 6 rfl dX3_findPromotions_109 ?_
              refine q_iload C 7 rfl dX3_findPromotions_111 ?_
              refine q_iconst C dX3_findPromotions_113 ?_
              refine q_callVI (As := [.int (gI x4), .int (gI x5), .int (gI x6), .int (gI 1)]) (st := []) C vX3_121 kX5_look ⟨by decide, by decide⟩ ⟨by decide, by decide⟩ rfl hk1 ⟨_, _, rfl⟩ (by decide) rfl (Nat.le_of_ble_eq_true rfl) (mX5_look l D cy kd ln rh _ a1 x4 x5 x6 1 M31 hk1 h) dX3_findPromotions_114 (fun c46 M45 g47 h => ?_)
              have h := h g47
              refine q_istore (lv' := [(8, .int (gI c46)), (7, .int (gI c32)), (0, .ref (gad a0)), (1, .ref (gad a1)), (2, .ref (gad a2)), (3, .int (gI x3)), (4, .int (gI x4)), (5, .int (gI x5)), (6, .int (gI x6))]) C (by decide) rfl dX3_findPromotions_117 ?_
              refine q_aload_n C 4 rfl rfl dX3_findPromotions_119 ?_
              refine q_iload C 6 rfl dX3_findPromotions_120 ?_
              refine q_iload C 7 rfl dX3_findPromotions_122 ?_
              refine q_iload C 8 rfl dX3_findPromotions_124 ?_
              refine q_iconst C dX3_findPromotions_126 ?_
              refine q_callVI (As := [.int (gI x4), .int (gI x5), .int (gI x6), .int (gI 1)]) (st := []) C vX3_121 kX5_look ⟨by decide, by decide⟩ ⟨by decide, by decide⟩ rfl hk2 ⟨_, _, rfl⟩ (by decide) rfl (Nat.le_of_ble_eq_true rfl) (mX5_look l D cy kd ln rh _ a2 x4 x5 x6 1 M45 hk2 h) dX3_findPromotions_127 (fun c49 M48 g50 h => ?_)
              have h := h g50
              refine q_istore (lv' := [(9, .int (gI c49)), (8, .int (gI c46)), (7, .int (gI c32)), (0, .ref (gad a0)), (1, .ref (gad a1)), (2, .ref (gad a2)), (3, .int (gI x3)), (4, .int (gI x4)), (5, .int (gI x5)), (6, .int (gI x6))]) C (by decide) rfl dX3_findPromotions_130 ?_
              refine q_aload_n C 3 rfl rfl dX3_findPromotions_132 ?_
              refine q_iload C 2 rfl dX3_findPromotions_133 ?_
              refine q_iload C 1 rfl dX3_findPromotions_135 ?_
              refine q_iload C 0 rfl dX3_findPromotions_137 ?_
              refine q_callSI (As := [.int (gI c46), .int (gI c49)]) (st := [.int (gI c32), .ref (gad a0)]) C vX3_125 kX3_lesserDistance ⟨by decide, by decide⟩ ⟨by decide, by decide⟩ rfl rfl (Nat.le_of_ble_eq_true rfl) (mX3_lesserDistance l D cy kd ln rh _ c46 c49 M48  h) dX3_findPromotions_139 (fun c52 M51 g53 h => ?_)
              have h := h g53
              refine q_callVV (As := [.int (gI c32), .int (gI c52)]) (st := []) C vX3_129 kX3_chainPromotion ⟨by decide, by decide⟩ ⟨by decide, by decide⟩ rfl hk0 ⟨_, _, rfl⟩ (by decide) rfl (Nat.le_of_ble_eq_true rfl) (mX3_chainPromotion l D cy kd ln rh _ a0 c32 c52 M51 hk0 h) dX3_findPromotions_142 (fun M54 h => ?_)
              refine q_lv (lv' := [(0, .ref (gad a0)), (1, .ref (gad a1)), (2, .ref (gad a2)), (3, .int (gI x3)), (4, .int (gI x4)), (5, .int (gI x5)), (6, .int (gI x6))]) [3, 4, 5, 6, 7, 8, 9] rfl ?_
              exact t145 k2 hk2_ (wX3_findPromotions_52 kd ln post a0 a1 a2 k2 n) hk52_ x3 x4 x5 x6 M54 h
  have t2 : ∀ (n : Nat) (x3 : Int) (M : gM), wX3_findPromotions_2 kd ln post a0 a1 a2 n x3 M → gW p l e (gRm 3 74) s m args below meth c D cy A H0 Q 10 kd ln rh 0 0 M 2 [(0, .ref (gad a0)), (1, .ref (gad a1)), (2, .ref (gad a2)), (3, .int (gI x3))] [] := by
    intro n
    induction n with
    | zero => intro x3 M h; exact absurd h (by simp [wX3_findPromotions_2])
    | succ n ih =>
      intro x3 M h
      have hk2_ := ih
      rw [wX3_findPromotions_2] at h
      refine q_iload_n C 3 rfl rfl dX3_findPromotions_2 ?_
      refine q_aload_n C 0 rfl rfl dX3_findPromotions_3 ?_
      refine q_get (v := gR (M a0 2 (-1))) C fX3_29 hk0 rfl dX3_findPromotions_4 (fun g1 => ?_)
      obtain ⟨r2, h⟩ := h
      refine q_nn r2 (by decide) ?_
      refine q_get (v := .int (gI (M (M a0 2 (-1)) 0 (-1)))) C fX3_47 r2 rfl dX3_findPromotions_7 (fun g3 => ?_)
      have h := h g3
      obtain ⟨r4, h⟩ := h
      refine q_icmp_ge (tgt := 157) C r4 g3 (by decide) dX3_findPromotions_10 (fun b5 => ?_) (fun b5 => ?_)
      · have h := h.1 b5
        exact hret M _ _ dX3_findPromotions_157 h
      · have h := h.2 b5
        refine q_aload_n C 0 rfl rfl dX3_findPromotions_13 ?_
        refine q_get (v := gR (M a0 2 (-1))) C fX3_29 hk0 rfl dX3_findPromotions_14 (fun g6 => ?_)
        refine q_nn r2 (by decide) ?_
        obtain ⟨r7, h⟩ := h
        refine q_get (v := .ref (rh (M a0 2 (-1)) 1)) C fX3_93 r2 (if_neg (Int.not_lt.mpr r7)) dX3_findPromotions_17 (fun g8 => ?_)
        refine q_iload_n C 3 rfl rfl dX3_findPromotions_20 ?_
        obtain ⟨r9, h⟩ := h
        refine q_iald C r2 rfl (fun _ q => q) r9 dX3_findPromotions_21 (fun g10 => ?_)
        have h := h g10
        refine q_topi (fun v11 ev11 => ?_)
        have h := h v11 ev11
        have gv11 : rng v11 := by rw [ev11]; exact g10
        refine q_istore (lv' := [(4, .int (gI v11)), (0, .ref (gad a0)), (1, .ref (gad a1)), (2, .ref (gad a2)), (3, .int (gI x3))]) C (by decide) rfl dX3_findPromotions_22 ?_
        refine q_aload_n C 1 rfl rfl dX3_findPromotions_24 ?_
        refine q_get (v := gR (M a0 2 (-1))) C fX3_29 hk0 rfl dX3_findPromotions_25 (fun g12 => ?_)
        refine q_nn r2 (by decide) ?_
        obtain ⟨r13, h⟩ := h
        refine q_get (v := .ref (rh (M a0 2 (-1)) 2)) C fX3_100 r2 (if_neg (Int.not_lt.mpr r13)) dX3_findPromotions_28 (fun g14 => ?_)
        refine q_iload_n C 4 rfl rfl dX3_findPromotions_31 ?_
        obtain ⟨r15, h⟩ := h
        refine q_iald C r2 rfl (fun _ q => q) r15 dX3_findPromotions_32 (fun g16 => ?_)
        have h := h g16
        refine q_topi (fun v17 ev17 => ?_)
        have h := h v17 ev17
        have gv17 : rng v17 := by rw [ev17]; exact g16
        refine q_istore (lv' := [(5, .int (gI v17)), (4, .int (gI v11)), (0, .ref (gad a0)), (1, .ref (gad a1)), (2, .ref (gad a2)), (3, .int (gI x3))]) C (by decide) rfl dX3_findPromotions_33 ?_
        refine q_aload_n C 2 rfl rfl dX3_findPromotions_35 ?_
        refine q_get (v := gR (M a0 0 (-1))) C fX3_15 hk0 rfl dX3_findPromotions_36 (fun g18 => ?_)
        obtain ⟨r19, h⟩ := h
        refine q_nn r19 (by decide) ?_
        refine q_get (v := .int (gI (M (M a0 0 (-1)) 1 (-1)))) C fX3_114 r19 rfl dX3_findPromotions_39 (fun g20 => ?_)
        have h := h g20
        refine q_aload_n C 2 rfl rfl dX3_findPromotions_42 ?_
        refine q_get (v := gR (M a0 0 (-1))) C fX3_15 hk0 rfl dX3_findPromotions_43 (fun g21 => ?_)
        refine q_nn r19 (by decide) ?_
        refine q_get (v := .int (gI (M (M a0 0 (-1)) 0 (-1)))) C fX3_51 r19 rfl dX3_findPromotions_46 (fun g22 => ?_)
        have h := h g22
        refine q_isub C dX3_findPromotions_49 ?_
        refine q_topi (fun v23 ev23 => ?_)
        have h := h v23 ev23
        refine q_istore (lv' := [(6, .int (gI v23)), (5, .int (gI v17)), (4, .int (gI v11)), (0, .ref (gad a0)), (1, .ref (gad a1)), (2, .ref (gad a2)), (3, .int (gI x3))]) C (by decide) rfl dX3_findPromotions_50 ?_
        refine q_lv (lv' := [(0, .ref (gad a0)), (1, .ref (gad a1)), (2, .ref (gad a2)), (3, .int (gI x3)), (4, .int (gI v11)), (5, .int (gI v17)), (6, .int (gI v23))]) [3, 4, 5, 6, 2, 1, 0] rfl ?_
        obtain ⟨j52, h⟩ := h
        exact t52 (wX3_findPromotions_2 kd ln post a0 a1 a2 n) hk2_ j52 x3 v11 v17 v23 M h
  unfold wX3_findPromotions at h
  refine q_iconst C dX3_findPromotions_0 ?_
  refine q_istore_n (lv' := [(3, .int (gI 0)), (0, .ref (gad a0)), (1, .ref (gad a1)), (2, .ref (gad a2))]) C rfl (by decide) rfl dX3_findPromotions_1 ?_
  refine q_lv (lv' := [(0, .ref (gad a0)), (1, .ref (gad a1)), (2, .ref (gad a2)), (3, .int (gI 0))]) [1, 2, 3, 0] rfl ?_
  obtain ⟨j2, h⟩ := h
  exact t2  j2 0 M h
set_option maxHeartbeats 4000000 in
set_option maxRecDepth 100000 in
theorem mX5_turnOf (l : Launch) (D : va_G) (cy : Nat → ClassId) (kd : gKd) (ln : gLn) (rh : gRh) (post : Int → gM → Prop) (a0 : Int) (M : gM)  (h : wX5_turnOf kd ln post a0 M) : gMI l D cy yX5_turnOf cX5_turnOf 1 .int 0 0 [.int (gI a0)] kd ln rh M post := by
  refine gMI_of (own := RX5) (by decide) rfl (Nat.le_of_ble_eq_true rfl) ?_
  intro p e s m args below meth c A H0 Q C hret
  unfold wX5_turnOf at h
  refine q_iload_n C 0 rfl rfl dX5_turnOf_0 ?_
  refine q_iconst C dX5_turnOf_1 ?_
  refine q_iand C dX5_turnOf_2 ?_
  obtain ⟨r1, h⟩ := h
  exact hret (giand a0 1) M _ _ dX5_turnOf_3 r1 h
set_option maxHeartbeats 4000000 in
set_option maxRecDepth 100000 in
theorem mX6_lowest (l : Launch) (D : va_G) (cy : Nat → ClassId) (kd : gKd) (ln : gLn) (rh : gRh) (post : Int → gM → Prop) (a0 : BitVec 64) (M : gM)  (h : wX6_lowest kd ln post a0 M) : gMI l D cy yX6_lowest cX6_lowest 2 .int 1 21 [.long (gL a0)] kd ln rh M post := by
  refine gMI_of (own := RX6) (by decide) rfl (Nat.le_of_ble_eq_true rfl) ?_
  intro p e s m args below meth c A H0 Q C hret
  unfold wX6_lowest at h
  refine q_lload_n C 0 rfl rfl dX6_lowest_0 ?_
  refine q_lload_n C 0 rfl rfl dX6_lowest_1 ?_
  refine q_lneg C dX6_lowest_2 ?_
  refine q_land C dX6_lowest_3 ?_
  refine q_lconst (b := 1) C rfl dX6_lowest_4 ?_
  refine q_lsub C dX6_lowest_5 ?_
  refine q_callSI (As := [.long (gL ((a0 &&& (-a0)) - (1 : BitVec 64)))]) (st := []) C vX6_78 kJ13_bitCount_95d88 ⟨by decide, by decide⟩ ⟨by decide, by decide⟩ rfl rfl (Nat.le_of_ble_eq_true rfl) (mJ13_bitCount_95d88 l D cy kd ln rh _ ((a0 &&& (-a0)) - (1 : BitVec 64)) M  h) dX6_lowest_6 (fun c2 M1 g3 h => ?_)
  have h := h g3
  exact hret c2 M1 _ _ dX6_lowest_9 g3 h
