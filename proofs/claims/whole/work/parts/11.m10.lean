set_option maxHeartbeats 4000000 in
set_option maxRecDepth 100000 in
theorem mX7_move (l : Launch) (D : va_G) (cy : Nat → ClassId) (kd : gKd) (ln : gLn) (rh : gRh) (post : Int → gM → Prop) (a0 : Int) (a1 : Int) (a2 : Int) (M : gM) (hk0 : kd a0 = 7) (h : wX7_move kd ln post a0 a1 a2 M) : gMI l D cy yX7_move cX7_move 3 .int 1 22 [.ref (gad a0), .int (gI a1), .int (gI a2)] kd ln rh M post := by
  refine gMI_of (own := RX7) (by decide) rfl (Nat.le_of_ble_eq_true rfl) ?_
  intro p e s m args below meth c A H0 Q C hret
  unfold wX7_move at h
  refine q_aload_n C 0 rfl rfl dX7_move_0 ?_
  refine q_iconst C dX7_move_1 ?_
  refine q_put (x := 0) (ty := .int) C fX7_81 hk0 (fun _ _ _ q => by cases q; rfl) (congrArg (fun z => Value.int (gI z)) gu_s) rfl rfl (show rng 0 by decide) (fun j q => absurd (show (0 : Nat) = j + 3 from q) (by omega)) dX7_move_2 ?_
  refine q_iload_n C 1 rfl rfl dX7_move_5 ?_
  refine q_iconst C dX7_move_6 ?_
  refine q_aload_n C 0 rfl rfl dX7_move_7 ?_
  refine q_get (v := .int (gI ((gu M a0 0 (-1) 0) a0 21 (-1)))) C fX7_193 hk0 rfl dX7_move_8 (fun g1 => ?_)
  have h := h g1
  refine q_iconst C dX7_move_11 ?_
  refine q_isub C dX7_move_12 ?_
  refine q_callSI (As := [.int (gI a1), .int (gI 0), .int (gI (((gu M a0 0 (-1) 0) a0 21 (-1)) - 1))]) (st := []) C vX7_84 kX7_in ⟨Nat.le_of_ble_eq_true rfl, Nat.le_of_ble_eq_true rfl⟩ ⟨Nat.le_of_ble_eq_true rfl, Nat.le_of_ble_eq_true rfl⟩ rfl rfl (Nat.le_of_ble_eq_true rfl) (mX7_in l D cy kd ln rh _ a1 0 (((gu M a0 0 (-1) 0) a0 21 (-1)) - 1) (gu M a0 0 (-1) 0)  h) dX7_move_13 (fun c3 M2 g4 h => ?_)
  have h := h g4
  refine q_if_ne (tgt := 21) C g4 (by decide) dX7_move_16 (fun b5 => ?_) (fun b5 => ?_)
  · have h := h.1 b5
    refine q_iload_n C 2 rfl rfl dX7_move_21 ?_
    obtain ⟨r6, h⟩ := h
    refine q_if_ne (tgt := 34) C r6 (by decide) dX7_move_22 (fun b7 => ?_) (fun b7 => ?_)
    · have h := h.1 b7
      refine q_iload_n C 2 rfl rfl dX7_move_34 ?_
      refine q_iconst C dX7_move_35 ?_
      refine q_icmp_ne (tgt := 48) C r6 (show rng 1 by decide) (by decide) dX7_move_36 (fun b8 => ?_) (fun b8 => ?_)
      · have h := h.1 b8
        refine q_iload_n C 2 rfl rfl dX7_move_48 ?_
        refine q_iconst C dX7_move_49 ?_
        refine q_icmp_ne (tgt := 62) C r6 (show rng 2 by decide) (by decide) dX7_move_50 (fun b9 => ?_) (fun b9 => ?_)
        · have h := h.1 b9
          refine q_iload_n C 2 rfl rfl dX7_move_62 ?_
          refine q_iconst C dX7_move_63 ?_
          refine q_icmp_ne (tgt := 76) C r6 (show rng 3 by decide) (by decide) dX7_move_64 (fun b10 => ?_) (fun b10 => ?_)
          · have h := h.1 b10
            refine q_iconst C dX7_move_76 ?_
            exact hret (-1) M2 _ _ dX7_move_77 (show rng (-1) by decide) h
          · have h := h.2 b10
            refine q_aload_n C 0 rfl rfl dX7_move_67 ?_
            obtain ⟨r11, h⟩ := h
            refine q_get (v := .ref (rh a0 25)) C fX7_72 hk0 (if_neg (Int.not_lt.mpr r11)) dX7_move_68 (fun g12 => ?_)
            refine q_iload_n C 1 rfl rfl dX7_move_71 ?_
            obtain ⟨r13, h⟩ := h
            refine q_iald C hk0 rfl (fun _ q => q) r13 dX7_move_72 (fun g14 => ?_)
            have h := h g14
            refine q_goto (tgt := 77) C (by decide) dX7_move_73 ?_
            exact hret (M2 a0 25 a1) M2 _ _ dX7_move_77 g14 h
        · have h := h.2 b9
          refine q_aload_n C 0 rfl rfl dX7_move_53 ?_
          obtain ⟨r15, h⟩ := h
          refine q_get (v := .ref (rh a0 24)) C fX7_69 hk0 (if_neg (Int.not_lt.mpr r15)) dX7_move_54 (fun g16 => ?_)
          refine q_iload_n C 1 rfl rfl dX7_move_57 ?_
          obtain ⟨r17, h⟩ := h
          refine q_iald C hk0 rfl (fun _ q => q) r17 dX7_move_58 (fun g18 => ?_)
          have h := h g18
          refine q_goto (tgt := 77) C (by decide) dX7_move_59 ?_
          exact hret (M2 a0 24 a1) M2 _ _ dX7_move_77 g18 h
      · have h := h.2 b8
        refine q_aload_n C 0 rfl rfl dX7_move_39 ?_
        obtain ⟨r19, h⟩ := h
        refine q_get (v := .ref (rh a0 23)) C fX7_66 hk0 (if_neg (Int.not_lt.mpr r19)) dX7_move_40 (fun g20 => ?_)
        refine q_iload_n C 1 rfl rfl dX7_move_43 ?_
        obtain ⟨r21, h⟩ := h
        refine q_iald C hk0 rfl (fun _ q => q) r21 dX7_move_44 (fun g22 => ?_)
        have h := h g22
        refine q_goto (tgt := 77) C (by decide) dX7_move_45 ?_
        exact hret (M2 a0 23 a1) M2 _ _ dX7_move_77 g22 h
    · have h := h.2 b7
      refine q_aload_n C 0 rfl rfl dX7_move_25 ?_
      obtain ⟨r23, h⟩ := h
      refine q_get (v := .ref (rh a0 22)) C fX7_63 hk0 (if_neg (Int.not_lt.mpr r23)) dX7_move_26 (fun g24 => ?_)
      refine q_iload_n C 1 rfl rfl dX7_move_29 ?_
      obtain ⟨r25, h⟩ := h
      refine q_iald C hk0 rfl (fun _ q => q) r25 dX7_move_30 (fun g26 => ?_)
      have h := h g26
      refine q_goto (tgt := 77) C (by decide) dX7_move_31 ?_
      exact hret (M2 a0 22 a1) M2 _ _ dX7_move_77 g26 h
  · have h := h.2 b5
    refine q_iconst C dX7_move_19 ?_
    exact hret (-1) M2 _ _ dX7_move_20 (show rng (-1) by decide) h
set_option maxHeartbeats 4000000 in
set_option maxRecDepth 100000 in
theorem mX7_moves (l : Launch) (D : va_G) (cy : Nat → ClassId) (kd : gKd) (ln : gLn) (rh : gRh) (post : Int → gM → Prop) (a0 : Int) (a1 : Int) (a2 : Int) (a3 : Int) (a4 : Int) (a5 : Int) (M : gM) (hk0 : kd a0 = 7) (h : wX7_moves kd ln post a0 a1 a2 a3 a4 a5 M) : gMI l D cy yX7_moves cX7_moves 6 .int 5 129 [.ref (gad a0), .int (gI a1), .int (gI a2), .int (gI a3), .int (gI a4), .int (gI a5)] kd ln rh M post := by
  refine gMI_of (own := RX7) (by decide) rfl (Nat.le_of_ble_eq_true rfl) ?_
  intro p e s m args below meth c A H0 Q C hret
  unfold wX7_moves at h
  refine q_aload_n C 0 rfl rfl dX7_moves_0 ?_
  refine q_iconst C dX7_moves_1 ?_
  refine q_put (x := 0) (ty := .int) C fX7_81 hk0 (fun _ _ _ q => by cases q; rfl) (congrArg (fun z => Value.int (gI z)) gu_s) rfl rfl (show rng 0 by decide) (fun j q => absurd (show (0 : Nat) = j + 3 from q) (by omega)) dX7_moves_2 ?_
  refine q_aload_n C 0 rfl rfl dX7_moves_5 ?_
  refine q_iload_n C 1 rfl rfl dX7_moves_6 ?_
  refine q_iload_n C 2 rfl rfl dX7_moves_7 ?_
  refine q_iload_n C 3 rfl rfl dX7_moves_8 ?_
  refine q_iload C 4 rfl dX7_moves_9 ?_
  refine q_iload C 5 rfl dX7_moves_11 ?_
  refine q_callVI (As := [.int (gI a1), .int (gI a2), .int (gI a3), .int (gI a4), .int (gI a5)]) (st := []) C vX7_183 kX7_areNumbers ⟨Nat.le_of_ble_eq_true rfl, Nat.le_of_ble_eq_true rfl⟩ ⟨Nat.le_of_ble_eq_true rfl, Nat.le_of_ble_eq_true rfl⟩ rfl hk0 ⟨_, _, rfl⟩ (by decide) rfl (Nat.le_of_ble_eq_true rfl) (mX7_areNumbers l D cy kd ln rh _ a0 a1 a2 a3 a4 a5 (gu M a0 0 (-1) 0) hk0 h) dX7_moves_13 (fun c2 M1 g3 h => ?_)
  have h := h g3
  refine q_if_eq (tgt := 33) C g3 (by decide) dX7_moves_16 (fun b4 => ?_) (fun b4 => ?_)
  · have h := h.1 b4
    refine q_iconst C dX7_moves_33 ?_
    exact hret (-1) M1 _ _ dX7_moves_34 (show rng (-1) by decide) h
  · have h := h.2 b4
    refine q_aload_n C 0 rfl rfl dX7_moves_19 ?_
    refine q_iload_n C 1 rfl rfl dX7_moves_20 ?_
    refine q_iload_n C 2 rfl rfl dX7_moves_21 ?_
    refine q_iload_n C 3 rfl rfl dX7_moves_22 ?_
    refine q_iload C 4 rfl dX7_moves_23 ?_
    refine q_iload C 5 rfl dX7_moves_25 ?_
    refine q_callVI (As := [.int (gI a1), .int (gI a2), .int (gI a3), .int (gI a4), .int (gI a5)]) (st := []) C vX7_107 kX7_legal ⟨Nat.le_of_ble_eq_true rfl, Nat.le_of_ble_eq_true rfl⟩ ⟨Nat.le_of_ble_eq_true rfl, Nat.le_of_ble_eq_true rfl⟩ rfl hk0 ⟨_, _, rfl⟩ (by decide) rfl (Nat.le_of_ble_eq_true rfl) (mX7_legal l D cy kd ln rh _ a0 a1 a2 a3 a4 a5 M1 hk0 h) dX7_moves_27 (fun c6 M5 g7 h => ?_)
    have h := h g7
    refine q_if_ne (tgt := 35) C g7 (by decide) dX7_moves_30 (fun b8 => ?_) (fun b8 => ?_)
    · have h := h.1 b8
      refine q_aload_n C 0 rfl rfl dX7_moves_35 ?_
      refine q_iload_n C 1 rfl rfl dX7_moves_36 ?_
      refine q_iload_n C 2 rfl rfl dX7_moves_37 ?_
      refine q_iload_n C 3 rfl rfl dX7_moves_38 ?_
      refine q_iload C 4 rfl dX7_moves_39 ?_
      refine q_iload C 5 rfl dX7_moves_41 ?_
      refine q_callVV (As := [.int (gI a1), .int (gI a2), .int (gI a3), .int (gI a4), .int (gI a5)]) (st := []) C vX7_138 kX7_find ⟨Nat.le_of_ble_eq_true rfl, Nat.le_of_ble_eq_true rfl⟩ ⟨Nat.le_of_ble_eq_true rfl, Nat.le_of_ble_eq_true rfl⟩ rfl hk0 ⟨_, _, rfl⟩ (by decide) rfl (Nat.le_of_ble_eq_true rfl) (mX7_find l D cy kd ln rh _ a0 a1 a2 a3 a4 a5 M5 hk0 h) dX7_moves_43 (fun M9 h => ?_)
      refine q_aload_n C 0 rfl rfl dX7_moves_46 ?_
      refine q_get (v := .int (gI (M9 a0 12 (-1)))) C fX7_104 hk0 rfl dX7_moves_47 (fun g12 => ?_)
      have h := h g12
      exact hret (M9 a0 12 (-1)) M9 _ _ dX7_moves_50 g12 h
    · have h := h.2 b8
      refine q_iconst C dX7_moves_33 ?_
      exact hret (-1) M5 _ _ dX7_moves_34 (show rng (-1) by decide) h
set_option maxHeartbeats 4000000 in
set_option maxRecDepth 100000 in
theorem mX7_number (l : Launch) (D : va_G) (cy : Nat → ClassId) (kd : gKd) (ln : gLn) (rh : gRh) (post : Int → gM → Prop) (a0 : Int) (a1 : Int) (a2 : Int) (a3 : Int) (a4 : Int) (a5 : Int) (M : gM) (hk0 : kd a0 = 7) (h : wX7_number kd ln post a0 a1 a2 a3 a4 a5 M) : gMI l D cy yX7_number cX7_number 6 .int 5 125 [.ref (gad a0), .int (gI a1), .int (gI a2), .int (gI a3), .int (gI a4), .int (gI a5)] kd ln rh M post := by
  refine gMI_of (own := RX7) (by decide) rfl (Nat.le_of_ble_eq_true rfl) ?_
  intro p e s m args below meth c A H0 Q C hret
  unfold wX7_number at h
  refine q_aload_n C 0 rfl rfl dX7_number_0 ?_
  refine q_iload_n C 1 rfl rfl dX7_number_1 ?_
  refine q_iload_n C 2 rfl rfl dX7_number_2 ?_
  refine q_iload_n C 3 rfl rfl dX7_number_3 ?_
  refine q_iload C 4 rfl dX7_number_4 ?_
  refine q_iload C 5 rfl dX7_number_6 ?_
  refine q_callVI (As := [.int (gI a1), .int (gI a2), .int (gI a3), .int (gI a4), .int (gI a5)]) (st := []) C vX7_190 kX7_mayAsk ⟨Nat.le_of_ble_eq_true rfl, Nat.le_of_ble_eq_true rfl⟩ ⟨Nat.le_of_ble_eq_true rfl, Nat.le_of_ble_eq_true rfl⟩ rfl hk0 ⟨_, _, rfl⟩ (by decide) rfl (Nat.le_of_ble_eq_true rfl) (mX7_mayAsk l D cy kd ln rh _ a0 a1 a2 a3 a4 a5 M hk0 h) dX7_number_8 (fun c2 M1 g3 h => ?_)
  have h := h g3
  refine q_if_ne (tgt := 16) C g3 (by decide) dX7_number_11 (fun b4 => ?_) (fun b4 => ?_)
  · have h := h.1 b4
    refine q_aload_n C 0 rfl rfl dX7_number_16 ?_
    refine q_iload_n C 1 rfl rfl dX7_number_17 ?_
    refine q_aload_n C 0 rfl rfl dX7_number_18 ?_
    refine q_iload_n C 1 rfl rfl dX7_number_19 ?_
    refine q_iload_n C 2 rfl rfl dX7_number_20 ?_
    refine q_iload_n C 3 rfl rfl dX7_number_21 ?_
    refine q_iload C 4 rfl dX7_number_22 ?_
    refine q_iload C 5 rfl dX7_number_24 ?_
    refine q_callVI (As := [.int (gI a1), .int (gI a2), .int (gI a3), .int (gI a4), .int (gI a5)]) (st := [.int (gI a1), .ref (gad a0)]) C vX7_173 kX7_least ⟨Nat.le_of_ble_eq_true rfl, Nat.le_of_ble_eq_true rfl⟩ ⟨Nat.le_of_ble_eq_true rfl, Nat.le_of_ble_eq_true rfl⟩ rfl hk0 ⟨_, _, rfl⟩ (by decide) rfl (Nat.le_of_ble_eq_true rfl) (mX7_least l D cy kd ln rh _ a0 a1 a2 a3 a4 a5 M1 hk0 h) dX7_number_26 (fun c6 M5 g7 h => ?_)
    have h := h g7
    refine q_callVI (As := [.int (gI a1), .int (gI c6)]) (st := []) C vX7_202 kX7_numberOf ⟨Nat.le_of_ble_eq_true rfl, Nat.le_of_ble_eq_true rfl⟩ ⟨Nat.le_of_ble_eq_true rfl, Nat.le_of_ble_eq_true rfl⟩ rfl hk0 ⟨_, _, rfl⟩ (by decide) rfl (Nat.le_of_ble_eq_true rfl) (mX7_numberOf l D cy kd ln rh _ a0 a1 c6 M5 hk0 h) dX7_number_29 (fun c9 M8 g10 h => ?_)
    have h := h g10
    exact hret c9 M8 _ _ dX7_number_32 g10 h
  · have h := h.2 b4
    refine q_iconst C dX7_number_14 ?_
    exact hret 0 M1 _ _ dX7_number_15 (show rng 0 by decide) h
set_option maxHeartbeats 4000000 in
set_option maxRecDepth 100000 in
theorem mX7_out (l : Launch) (D : va_G) (cy : Nat → ClassId) (kd : gKd) (ln : gLn) (rh : gRh) (post : Int → gM → Prop) (a0 : Int) (a1 : Int) (M : gM) (hk0 : kd a0 = 7) (h : wX7_out kd ln post a0 a1 M) : gMI l D cy yX7_out cX7_out 2 .int 1 22 [.ref (gad a0), .int (gI a1)] kd ln rh M post := by
  refine gMI_of (own := RX7) (by decide) rfl (Nat.le_of_ble_eq_true rfl) ?_
  intro p e s m args below meth c A H0 Q C hret
  unfold wX7_out at h
  refine q_aload_n C 0 rfl rfl dX7_out_0 ?_
  refine q_iconst C dX7_out_1 ?_
  refine q_put (x := 0) (ty := .int) C fX7_81 hk0 (fun _ _ _ q => by cases q; rfl) (congrArg (fun z => Value.int (gI z)) gu_s) rfl rfl (show rng 0 by decide) (fun j q => absurd (show (0 : Nat) = j + 3 from q) (by omega)) dX7_out_2 ?_
  refine q_iload_n C 1 rfl rfl dX7_out_5 ?_
  refine q_iconst C dX7_out_6 ?_
  refine q_aload_n C 0 rfl rfl dX7_out_7 ?_
  refine q_get (v := .int (gI ((gu M a0 0 (-1) 0) a0 11 (-1)))) C fX7_217 hk0 rfl dX7_out_8 (fun g1 => ?_)
  have h := h g1
  refine q_iconst C dX7_out_11 ?_
  refine q_isub C dX7_out_12 ?_
  refine q_callSI (As := [.int (gI a1), .int (gI 0), .int (gI (((gu M a0 0 (-1) 0) a0 11 (-1)) - 1))]) (st := []) C vX7_84 kX7_in ⟨Nat.le_of_ble_eq_true rfl, Nat.le_of_ble_eq_true rfl⟩ ⟨Nat.le_of_ble_eq_true rfl, Nat.le_of_ble_eq_true rfl⟩ rfl rfl (Nat.le_of_ble_eq_true rfl) (mX7_in l D cy kd ln rh _ a1 0 (((gu M a0 0 (-1) 0) a0 11 (-1)) - 1) (gu M a0 0 (-1) 0)  h) dX7_out_13 (fun c3 M2 g4 h => ?_)
  have h := h g4
  refine q_if_eq (tgt := 32) C g4 (by decide) dX7_out_16 (fun b5 => ?_) (fun b5 => ?_)
  · have h := h.1 b5
    refine q_iconst C dX7_out_32 ?_
    exact hret (-1) M2 _ _ dX7_out_33 (show rng (-1) by decide) h
  · have h := h.2 b5
    refine q_aload_n C 0 rfl rfl dX7_out_19 ?_
    obtain ⟨r6, h⟩ := h
    refine q_get (v := .ref (rh a0 10)) C fX7_39 hk0 (if_neg (Int.not_lt.mpr r6)) dX7_out_20 (fun g7 => ?_)
    refine q_iload_n C 1 rfl rfl dX7_out_23 ?_
    obtain ⟨r8, h⟩ := h
    refine q_bald C hk0 rfl (fun _ q => q) r8 dX7_out_24 (fun g9 => ?_)
    have h := h g9
    refine q_sipush C (by decide) dX7_out_25 ?_
    refine q_iand C dX7_out_28 ?_
    refine q_goto (tgt := 33) C (by decide) dX7_out_29 ?_
    obtain ⟨r10, h⟩ := h
    exact hret (giand (M2 a0 10 a1) 255) M2 _ _ dX7_out_33 r10 h
set_option maxHeartbeats 4000000 in
set_option maxRecDepth 100000 in
theorem mX7_ply (l : Launch) (D : va_G) (cy : Nat → ClassId) (kd : gKd) (ln : gLn) (rh : gRh) (post : Int → gM → Prop) (a0 : Int) (a1 : Int) (a2 : Int) (M : gM) (hk0 : kd a0 = 7) (h : wX7_ply kd ln post a0 a1 a2 M) : gMI l D cy yX7_ply cX7_ply 3 .int 1 22 [.ref (gad a0), .int (gI a1), .int (gI a2)] kd ln rh M post := by
  refine gMI_of (own := RX7) (by decide) rfl (Nat.le_of_ble_eq_true rfl) ?_
  intro p e s m args below meth c A H0 Q C hret
  unfold wX7_ply at h
  refine q_aload_n C 0 rfl rfl dX7_ply_0 ?_
  refine q_iconst C dX7_ply_1 ?_
  refine q_put (x := 0) (ty := .int) C fX7_81 hk0 (fun _ _ _ q => by cases q; rfl) (congrArg (fun z => Value.int (gI z)) gu_s) rfl rfl (show rng 0 by decide) (fun j q => absurd (show (0 : Nat) = j + 3 from q) (by omega)) dX7_ply_2 ?_
  refine q_iload_n C 1 rfl rfl dX7_ply_5 ?_
  refine q_iconst C dX7_ply_6 ?_
  refine q_aload_n C 0 rfl rfl dX7_ply_7 ?_
  refine q_get (v := .int (gI ((gu M a0 0 (-1) 0) a0 26 (-1)))) C fX7_75 hk0 rfl dX7_ply_8 (fun g1 => ?_)
  have h := h g1
  refine q_callSI (As := [.int (gI a1), .int (gI 0), .int (gI ((gu M a0 0 (-1) 0) a0 26 (-1)))]) (st := []) C vX7_84 kX7_in ⟨Nat.le_of_ble_eq_true rfl, Nat.le_of_ble_eq_true rfl⟩ ⟨Nat.le_of_ble_eq_true rfl, Nat.le_of_ble_eq_true rfl⟩ rfl rfl (Nat.le_of_ble_eq_true rfl) (mX7_in l D cy kd ln rh _ a1 0 ((gu M a0 0 (-1) 0) a0 26 (-1)) (gu M a0 0 (-1) 0)  h) dX7_ply_11 (fun c3 M2 g4 h => ?_)
  have h := h g4
  refine q_if_eq (tgt := 39) C g4 (by decide) dX7_ply_14 (fun b5 => ?_) (fun b5 => ?_)
  · have h := h.1 b5
    refine q_iconst C dX7_ply_39 ?_
    exact hret (-1) M2 _ _ dX7_ply_40 (show rng (-1) by decide) h
  · have h := h.2 b5
    refine q_iload_n C 2 rfl rfl dX7_ply_17 ?_
    refine q_iconst C dX7_ply_18 ?_
    refine q_iconst C dX7_ply_19 ?_
    refine q_callSI (As := [.int (gI a2), .int (gI 0), .int (gI 4)]) (st := []) C vX7_84 kX7_in ⟨Nat.le_of_ble_eq_true rfl, Nat.le_of_ble_eq_true rfl⟩ ⟨Nat.le_of_ble_eq_true rfl, Nat.le_of_ble_eq_true rfl⟩ rfl rfl (Nat.le_of_ble_eq_true rfl) (mX7_in l D cy kd ln rh _ a2 0 4 M2  h) dX7_ply_20 (fun c7 M6 g8 h => ?_)
    have h := h g8
    refine q_if_eq (tgt := 39) C g8 (by decide) dX7_ply_23 (fun b9 => ?_) (fun b9 => ?_)
    · have h := h.1 b9
      refine q_iconst C dX7_ply_39 ?_
      exact hret (-1) M6 _ _ dX7_ply_40 (show rng (-1) by decide) h
    · have h := h.2 b9
      refine q_aload_n C 0 rfl rfl dX7_ply_26 ?_
      obtain ⟨r10, h⟩ := h
      refine q_get (v := .ref (rh a0 27)) C fX7_78 hk0 (if_neg (Int.not_lt.mpr r10)) dX7_ply_27 (fun g11 => ?_)
      refine q_iconst C dX7_ply_30 ?_
      refine q_iload_n C 1 rfl rfl dX7_ply_31 ?_
      refine q_imul C dX7_ply_32 ?_
      refine q_iload_n C 2 rfl rfl dX7_ply_33 ?_
      refine q_iadd C dX7_ply_34 ?_
      obtain ⟨r12, h⟩ := h
      refine q_iald C hk0 rfl (fun _ q => q) r12 dX7_ply_35 (fun g13 => ?_)
      have h := h g13
      refine q_goto (tgt := 40) C (by decide) dX7_ply_36 ?_
      exact hret (M6 a0 27 ((5 * a1) + a2)) M6 _ _ dX7_ply_40 g13 h
set_option maxHeartbeats 4000000 in
set_option maxRecDepth 100000 in
theorem mX7_position (l : Launch) (D : va_G) (cy : Nat → ClassId) (kd : gKd) (ln : gLn) (rh : gRh) (post : Int → gM → Prop) (a0 : Int) (a1 : Int) (a2 : Int) (a3 : Int) (M : gM) (hk0 : kd a0 = 7) (h : wX7_position kd ln post a0 a1 a2 a3 M) : gMI l D cy yX7_position cX7_position 8 .int 2 43 [.ref (gad a0), .int (gI a1), .int (gI a2), .int (gI a3)] kd ln rh M post := by
  refine gMI_of (own := RX7) (by decide) rfl (Nat.le_of_ble_eq_true rfl) ?_
  intro p e s m args below meth c A H0 Q C hret
  have t105 : ∀ (k57 : Int → Int → gM → Prop), (∀ (x4 : Int), ∀ (x5 : Int), ∀ (M : gM), k57 x4 x5 M → gW p l e (gRm 2 43) s m args below meth c D cy A H0 Q 8 kd ln rh 0 0 M 57 [(0, .ref (gad a0)), (1, .int (gI a1)), (2, .int (gI a2)), (3, .int (gI a3)), (4, .int (gI x4)), (5, .int (gI x5))] []) → ∀ (x4 : Int) (x5 : Int) (M : gM), wX7_position_105 kd ln post a0 a1 a2 a3 k57 x4 x5 M → gW p l e (gRm 2 43) s m args below meth c D cy A H0 Q 8 kd ln rh 0 0 M 105 [(0, .ref (gad a0)), (1, .int (gI a1)), (2, .int (gI a2)), (3, .int (gI a3)), (4, .int (gI x4)), (5, .int (gI x5))] [] := by
    intro k57 hk57_ x4 x5 M h
    unfold wX7_position_105 at h
    refine q_goto (tgt := 57) C (by decide) dX7_position_105 ?_
    exact hk57_ x4 x5 M h
  have t164 : ∀ (k132 : Int → Int → gM → Prop), (∀ (x6 : Int), ∀ (x7 : Int), ∀ (M : gM), k132 x6 x7 M → gW p l e (gRm 2 43) s m args below meth c D cy A H0 Q 8 kd ln rh 0 0 M 132 [(0, .ref (gad a0)), (1, .int (gI a1)), (3, .int (gI a3)), (6, .int (gI x6)), (7, .int (gI x7))] []) → ∀ (x7 : Int) (y0 : Int) (y1 : Int) (M : gM), wX7_position_164 kd ln post a0 a1 a2 a3 k132 x7 y0 y1 M → gW p l e (gRm 2 43) s m args below meth c D cy A H0 Q 8 kd ln rh 0 0 M 164 [(0, .ref (gad a0)), (1, .int (gI a1)), (3, .int (gI a3)), (7, .int (gI x7))] [.int (gI y0), .int (gI y1)] := by
    intro k132 hk132_ x7 y0 y1 M h
    unfold wX7_position_164 at h
    refine q_isub C dX7_position_164 ?_
    refine q_topi (fun v72 ev72 => ?_)
    have h := h v72 ev72
    refine q_istore (lv' := [(6, .int (gI v72)), (0, .ref (gad a0)), (1, .int (gI a1)), (3, .int (gI a3)), (7, .int (gI x7))]) C (by decide) rfl dX7_position_165 ?_
    refine q_iinc (lv' := [(7, .int (gI (x7 + 1))), (6, .int (gI v72)), (0, .ref (gad a0)), (1, .int (gI a1)), (3, .int (gI a3))]) C 4 rfl (by decide) rfl dX7_position_167 ?_
    refine q_goto (tgt := 132) C (by decide) dX7_position_170 ?_
    refine q_lv (lv' := [(0, .ref (gad a0)), (1, .int (gI a1)), (3, .int (gI a3)), (6, .int (gI v72)), (7, .int (gI (x7 + 1)))]) [2, 3, 4, 1, 0] rfl ?_
    exact hk132_ v72 (x7 + 1) M h
  have t147 : ∀ (k132 : Int → Int → gM → Prop), (∀ (x6 : Int), ∀ (x7 : Int), ∀ (M : gM), k132 x6 x7 M → gW p l e (gRm 2 43) s m args below meth c D cy A H0 Q 8 kd ln rh 0 0 M 132 [(0, .ref (gad a0)), (1, .int (gI a1)), (3, .int (gI a3)), (6, .int (gI x6)), (7, .int (gI x7))] []) → ∀ (x6 : Int) (x7 : Int) (M : gM), wX7_position_147 kd ln post a0 a1 a2 a3 k132 x6 x7 M → gW p l e (gRm 2 43) s m args below meth c D cy A H0 Q 8 kd ln rh 0 0 M 147 [(0, .ref (gad a0)), (1, .int (gI a1)), (3, .int (gI a3)), (6, .int (gI x6)), (7, .int (gI x7))] [] := by
    intro k132 hk132_ x6 x7 M h
    unfold wX7_position_147 at h
    refine q_iload C 3 rfl dX7_position_147 ?_
    refine q_aload_n C 0 rfl rfl dX7_position_149 ?_
    refine q_iload_n C 1 rfl rfl dX7_position_150 ?_
    refine q_iload C 4 rfl dX7_position_151 ?_
    refine q_callVI (As := [.int (gI a1), .int (gI x7)]) (st := [.int (gI x6)]) C vX7_176 kX7_isCanon ⟨Nat.le_of_ble_eq_true rfl, Nat.le_of_ble_eq_true rfl⟩ ⟨Nat.le_of_ble_eq_true rfl, Nat.le_of_ble_eq_true rfl⟩ rfl hk0 ⟨_, _, rfl⟩ (by decide) rfl (Nat.le_of_ble_eq_true rfl) (mX7_isCanon l D cy kd ln rh _ a0 a1 x7 M hk0 h) dX7_position_153 (fun c69 M68 g70 h => ?_)
    have h := h g70
    refine q_if_eq (tgt := 163) C g70 (by decide) dX7_position_156 (fun b71 => ?_) (fun b71 => ?_)
    · have h := h.1 b71
      refine q_iconst C dX7_position_163 ?_
      refine q_lv (lv' := [(0, .ref (gad a0)), (1, .int (gI a1)), (3, .int (gI a3)), (7, .int (gI x7))]) [0, 1, 2, 4] rfl ?_
      exact t164 k132 hk132_ x7 0 x6 M68 h
    · have h := h.2 b71
      refine q_iconst C dX7_position_159 ?_
      refine q_goto (tgt := 164) C (by decide) dX7_position_160 ?_
      refine q_lv (lv' := [(0, .ref (gad a0)), (1, .int (gI a1)), (3, .int (gI a3)), (7, .int (gI x7))]) [0, 1, 2, 4] rfl ?_
      exact t164 k132 hk132_ x7 1 x6 M68 h
  have t132 : ∀ (n : Nat) (x6 : Int) (x7 : Int) (M : gM), wX7_position_132 kd ln post a0 a1 a2 a3 n x6 x7 M → gW p l e (gRm 2 43) s m args below meth c D cy A H0 Q 8 kd ln rh 0 0 M 132 [(0, .ref (gad a0)), (1, .int (gI a1)), (3, .int (gI a3)), (6, .int (gI x6)), (7, .int (gI x7))] [] := by
    intro n
    induction n with
    | zero => intro x6 x7 M h; exact absurd h (by simp [wX7_position_132])
    | succ n ih =>
      intro x6 x7 M h
      have hk132_ := ih
      rw [wX7_position_132] at h
      refine q_iload C 3 rfl dX7_position_132 ?_
      obtain ⟨r38, h⟩ := h
      refine q_if_gt (tgt := 147) C r38 (by decide) dX7_position_134 (fun b39 => ?_) (fun b39 => ?_)
      · have h := h.1 b39
        exact t147 (wX7_position_132 kd ln post a0 a1 a2 a3 n) hk132_ x6 x7 M h
      · have h := h.2 b39
        refine q_aload_n C 0 rfl rfl dX7_position_137 ?_
        refine q_iload_n C 1 rfl rfl dX7_position_138 ?_
        refine q_iload C 4 rfl dX7_position_139 ?_
        refine q_callVI (As := [.int (gI a1), .int (gI x7)]) (st := []) C vX7_176 kX7_isCanon ⟨Nat.le_of_ble_eq_true rfl, Nat.le_of_ble_eq_true rfl⟩ ⟨Nat.le_of_ble_eq_true rfl, Nat.le_of_ble_eq_true rfl⟩ rfl hk0 ⟨_, _, rfl⟩ (by decide) rfl (Nat.le_of_ble_eq_true rfl) (mX7_isCanon l D cy kd ln rh _ a0 a1 x7 M hk0 h) dX7_position_141 (fun c41 M40 g42 h => ?_)
        have h := h g42
        refine q_if_ne (tgt := 173) C g42 (by decide) dX7_position_144 (fun b43 => ?_) (fun b43 => ?_)
        · have h := h.1 b43
          refine q_iload_n C 2 rfl rfl dX7_position_173 ?_
          obtain ⟨r44, h⟩ := h
          rcases (show (a3 < 0 ∨ 4 < a3) ∨ a3 = 0 ∨ a3 = 1 ∨ a3 = 2 ∨ a3 = 3 ∨ a3 = 4 by omega) with b45 | b45 | b45 | b45 | b45 | b45
          · have h := h.1 b45
            refine q_tswOut (tgt := 268) C r44 b45 (by decide) dX7_position_174 ?_
            refine q_iconst C dX7_position_268 ?_
            exact hret (-1) M40 _ _ dX7_position_269 (show rng (-1) by decide) h
          · have h := h.2.1 b45
            refine q_tswIn (tgt := 208) (off := 34) C r44 (by omega) (by omega) (by rw [b45]; rfl) (by decide) dX7_position_174 ?_
            refine q_iload C 4 rfl dX7_position_208 ?_
            refine q_iconst C dX7_position_210 ?_
            obtain ⟨r46, h⟩ := h
            refine q_idiv C ⟨r46.1, r46.2, by decide, by decide⟩ dX7_position_211 ?_
            refine q_aload_n C 0 rfl rfl dX7_position_212 ?_
            refine q_get (v := .int (gI (M40 a0 2 (-1)))) C fX7_13 hk0 rfl dX7_position_213 (fun g47 => ?_)
            have h := h g47
            obtain ⟨r48, h⟩ := h
            refine q_idiv C r48 dX7_position_216 ?_
            refine q_aload_n C 0 rfl rfl dX7_position_217 ?_
            refine q_get (v := .int (gI (M40 a0 2 (-1)))) C fX7_13 hk0 rfl dX7_position_218 (fun g49 => ?_)
            obtain ⟨r50, h⟩ := h
            refine q_idiv C r50 dX7_position_221 ?_
            obtain ⟨r51, h⟩ := h
            exact hret (((x7 / 2) / (M40 a0 2 (-1))) / (M40 a0 2 (-1))) M40 _ _ dX7_position_222 r51 h
          · have h := h.2.2.1 b45
            refine q_tswIn (tgt := 223) (off := 49) C r44 (by omega) (by omega) (by rw [b45]; rfl) (by decide) dX7_position_174 ?_
            refine q_iload C 4 rfl dX7_position_223 ?_
            refine q_iconst C dX7_position_225 ?_
            obtain ⟨r52, h⟩ := h
            refine q_idiv C ⟨r52.1, r52.2, by decide, by decide⟩ dX7_position_226 ?_
            refine q_aload_n C 0 rfl rfl dX7_position_227 ?_
            refine q_get (v := .int (gI (M40 a0 2 (-1)))) C fX7_13 hk0 rfl dX7_position_228 (fun g53 => ?_)
            have h := h g53
            obtain ⟨r54, h⟩ := h
            refine q_idiv C r54 dX7_position_231 ?_
            refine q_aload_n C 0 rfl rfl dX7_position_232 ?_
            refine q_get (v := .int (gI (M40 a0 2 (-1)))) C fX7_13 hk0 rfl dX7_position_233 (fun g55 => ?_)
            obtain ⟨r56, h⟩ := h
            refine q_irem C r56 dX7_position_236 ?_
            obtain ⟨r57, h⟩ := h
            exact hret (((x7 / 2) / (M40 a0 2 (-1))) % (M40 a0 2 (-1))) M40 _ _ dX7_position_237 r57 h
          · have h := h.2.2.2.1 b45
            refine q_tswIn (tgt := 238) (off := 64) C r44 (by omega) (by omega) (by rw [b45]; rfl) (by decide) dX7_position_174 ?_
            refine q_iload C 4 rfl dX7_position_238 ?_
            refine q_iconst C dX7_position_240 ?_
            obtain ⟨r58, h⟩ := h
            refine q_idiv C ⟨r58.1, r58.2, by decide, by decide⟩ dX7_position_241 ?_
            refine q_aload_n C 0 rfl rfl dX7_position_242 ?_
            refine q_get (v := .int (gI (M40 a0 2 (-1)))) C fX7_13 hk0 rfl dX7_position_243 (fun g59 => ?_)
            have h := h g59
            obtain ⟨r60, h⟩ := h
            refine q_irem C r60 dX7_position_246 ?_
            obtain ⟨r61, h⟩ := h
            exact hret ((x7 / 2) % (M40 a0 2 (-1))) M40 _ _ dX7_position_247 r61 h
          · have h := h.2.2.2.2.1 b45
            refine q_tswIn (tgt := 248) (off := 74) C r44 (by omega) (by omega) (by rw [b45]; rfl) (by decide) dX7_position_174 ?_
            refine q_iload C 4 rfl dX7_position_248 ?_
            refine q_iconst C dX7_position_250 ?_
            refine q_iand C dX7_position_251 ?_
            obtain ⟨r62, h⟩ := h
            exact hret (giand x7 1) M40 _ _ dX7_position_252 r62 h
          · have h := h.2.2.2.2.2 b45
            refine q_tswIn (tgt := 253) (off := 79) C r44 (by omega) (by omega) (by rw [b45]; rfl) (by decide) dX7_position_174 ?_
            refine q_aload_n C 0 rfl rfl dX7_position_253 ?_
            obtain ⟨r63, h⟩ := h
            refine q_get (v := .ref (rh a0 4)) C fX7_21 hk0 (if_neg (Int.not_lt.mpr r63)) dX7_position_254 (fun g64 => ?_)
            refine q_ldc (n := 524288) C nX7_118 (by decide) dX7_position_257 ?_
            refine q_iload_n C 1 rfl rfl dX7_position_259 ?_
            refine q_imul C dX7_position_260 ?_
            refine q_iload C 4 rfl dX7_position_261 ?_
            refine q_iadd C dX7_position_263 ?_
            obtain ⟨r65, h⟩ := h
            refine q_bald C hk0 rfl (fun _ q => q) r65 dX7_position_264 (fun g66 => ?_)
            have h := h g66
            refine q_iconst C dX7_position_265 ?_
            refine q_isub C dX7_position_266 ?_
            obtain ⟨r67, h⟩ := h
            exact hret ((M40 a0 4 ((524288 * a1) + x7)) - 1) M40 _ _ dX7_position_267 r67 h
        · have h := h.2 b43
          exact t147 (wX7_position_132 kd ln post a0 a1 a2 a3 n) hk132_ x6 x7 M40 h
  have t57 : ∀ (n : Nat) (x4 : Int) (x5 : Int) (M : gM), wX7_position_57 kd ln post a0 a1 a2 a3 n x4 x5 M → gW p l e (gRm 2 43) s m args below meth c D cy A H0 Q 8 kd ln rh 0 0 M 57 [(0, .ref (gad a0)), (1, .int (gI a1)), (2, .int (gI a2)), (3, .int (gI a3)), (4, .int (gI x4)), (5, .int (gI x5))] [] := by
    intro n
    induction n with
    | zero => intro x4 x5 M h; exact absurd h (by simp [wX7_position_57])
    | succ n ih =>
      intro x4 x5 M h
      have hk57_ := ih
      rw [wX7_position_57] at h
      refine q_iload C 4 rfl dX7_position_57 ?_
      refine q_iload C 5 rfl dX7_position_59 ?_
      obtain ⟨r20, h⟩ := h
      obtain ⟨r21, h⟩ := h
      refine q_icmp_ge (tgt := 108) C r20 r21 (by decide) dX7_position_61 (fun b22 => ?_) (fun b22 => ?_)
      · have h := h.1 b22
        refine q_iload_n C 2 rfl rfl dX7_position_108 ?_
        refine q_aload_n C 0 rfl rfl dX7_position_109 ?_
        obtain ⟨r23, h⟩ := h
        refine q_get (v := .ref (rh a0 6)) C fX7_30 hk0 (if_neg (Int.not_lt.mpr r23)) dX7_position_110 (fun g24 => ?_)
        refine q_sipush C (by decide) dX7_position_113 ?_
        refine q_iload_n C 1 rfl rfl dX7_position_116 ?_
        refine q_imul C dX7_position_117 ?_
        refine q_iload C 4 rfl dX7_position_118 ?_
        refine q_iadd C dX7_position_120 ?_
        obtain ⟨r25, h⟩ := h
        refine q_iald C hk0 rfl (fun _ q => q) r25 dX7_position_121 (fun g26 => ?_)
        have h := h g26
        refine q_isub C dX7_position_122 ?_
        refine q_topi (fun v27 ev27 => ?_)
        have h := h v27 ev27
        refine q_istore (lv' := [(6, .int (gI v27)), (0, .ref (gad a0)), (1, .int (gI a1)), (2, .int (gI a2)), (3, .int (gI a3)), (4, .int (gI x4)), (5, .int (gI x5))]) C (by decide) rfl dX7_position_123 ?_
        refine q_bipush C (by decide) dX7_position_125 ?_
        refine q_iload C 5 rfl dX7_position_127 ?_
        refine q_imul C dX7_position_129 ?_
        refine q_topi (fun v28 ev28 => ?_)
        have h := h v28 ev28
        refine q_istore (lv' := [(7, .int (gI v28)), (6, .int (gI v27)), (0, .ref (gad a0)), (1, .int (gI a1)), (2, .int (gI a2)), (3, .int (gI a3)), (4, .int (gI x4)), (5, .int (gI x5))]) C (by decide) rfl dX7_position_130 ?_
        refine q_lv (lv' := [(0, .ref (gad a0)), (1, .int (gI a1)), (3, .int (gI a3)), (6, .int (gI v27)), (7, .int (gI v28))]) [2, 3, 5, 1, 0] rfl ?_
        obtain ⟨j132, h⟩ := h
        exact t132  j132 v27 v28 M h
      · have h := h.2 b22
        refine q_iload C 4 rfl dX7_position_64 ?_
        refine q_iload C 5 rfl dX7_position_66 ?_
        refine q_iadd C dX7_position_68 ?_
        refine q_iconst C dX7_position_69 ?_
        refine q_iadd C dX7_position_70 ?_
        refine q_iconst C dX7_position_71 ?_
        obtain ⟨r29, h⟩ := h
        refine q_idiv C ⟨r29.1, r29.2, by decide, by decide⟩ dX7_position_72 ?_
        refine q_topi (fun v30 ev30 => ?_)
        have h := h v30 ev30
        refine q_istore (lv' := [(6, .int (gI v30)), (0, .ref (gad a0)), (1, .int (gI a1)), (2, .int (gI a2)), (3, .int (gI a3)), (4, .int (gI x4)), (5, .int (gI x5))]) C (by decide) rfl dX7_position_73 ?_
        refine q_aload_n C 1 rfl rfl dX7_position_75 ?_
        obtain ⟨r31, h⟩ := h
        refine q_get (v := .ref (rh a0 6)) C fX7_30 hk0 (if_neg (Int.not_lt.mpr r31)) dX7_position_76 (fun g32 => ?_)
        refine q_sipush C (by decide) dX7_position_79 ?_
        refine q_iload_n C 2 rfl rfl dX7_position_82 ?_
        refine q_imul C dX7_position_83 ?_
        refine q_iload C 0 rfl dX7_position_84 ?_
        refine q_iadd C dX7_position_86 ?_
        obtain ⟨r33, h⟩ := h
        refine q_iald C hk0 rfl (fun _ q => q) r33 dX7_position_87 (fun g34 => ?_)
        have h := h g34
        refine q_iload_n C 3 rfl rfl dX7_position_88 ?_
        obtain ⟨r35, h⟩ := h
        refine q_icmp_gt (tgt := 99) C g34 r35 (by decide) dX7_position_89 (fun b36 => ?_) (fun b36 => ?_)
        · have h := h.1 b36
          refine q_iload C 0 rfl dX7_position_99 ?_
          refine q_iconst C dX7_position_101 ?_
          refine q_isub C dX7_position_102 ?_
          refine q_topi (fun v37 ev37 => ?_)
          have h := h v37 ev37
          refine q_istore (lv' := [(5, .int (gI v37)), (6, .int (gI v30)), (0, .ref (gad a0)), (1, .int (gI a1)), (2, .int (gI a2)), (3, .int (gI a3)), (4, .int (gI x4))]) C (by decide) rfl dX7_position_103 ?_
          refine q_lv (lv' := [(0, .ref (gad a0)), (1, .int (gI a1)), (2, .int (gI a2)), (3, .int (gI a3)), (4, .int (gI x4)), (5, .int (gI v37))]) [2, 3, 4, 5, 6, 0] rfl ?_
          exact t105 (wX7_position_57 kd ln post a0 a1 a2 a3 n) hk57_ x4 v37 M h
        · have h := h.2 b36
          refine q_iload C 0 rfl dX7_position_92 ?_
          refine q_istore (lv' := [(4, .int (gI v30)), (6, .int (gI v30)), (0, .ref (gad a0)), (1, .int (gI a1)), (2, .int (gI a2)), (3, .int (gI a3)), (5, .int (gI x5))]) C (by decide) rfl dX7_position_94 ?_
          refine q_goto (tgt := 105) C (by decide) dX7_position_96 ?_
          refine q_lv (lv' := [(0, .ref (gad a0)), (1, .int (gI a1)), (2, .int (gI a2)), (3, .int (gI a3)), (4, .int (gI v30)), (5, .int (gI x5))]) [2, 3, 4, 5, 0, 6] rfl ?_
          exact t105 (wX7_position_57 kd ln post a0 a1 a2 a3 n) hk57_ v30 x5 M h
  unfold wX7_position at h
  refine q_aload_n C 0 rfl rfl dX7_position_0 ?_
  refine q_aload_n C 0 rfl rfl dX7_position_1 ?_
  refine q_iload_n C 1 rfl rfl dX7_position_2 ?_
  refine q_callVI (As := [.int (gI a1)]) (st := [.ref (gad a0)]) C vX7_179 kX7_isMade ⟨Nat.le_of_ble_eq_true rfl, Nat.le_of_ble_eq_true rfl⟩ ⟨Nat.le_of_ble_eq_true rfl, Nat.le_of_ble_eq_true rfl⟩ rfl hk0 ⟨_, _, rfl⟩ (by decide) rfl (Nat.le_of_ble_eq_true rfl) (mX7_isMade l D cy kd ln rh _ a0 a1 M hk0 h) dX7_position_3 (fun c2 M1 g3 h => ?_)
  have h := h g3
  refine q_callVI (As := [.int (gI c2)]) (st := []) C vX7_186 kX7_may ⟨Nat.le_of_ble_eq_true rfl, Nat.le_of_ble_eq_true rfl⟩ ⟨Nat.le_of_ble_eq_true rfl, Nat.le_of_ble_eq_true rfl⟩ rfl hk0 ⟨_, _, rfl⟩ (by decide) rfl (Nat.le_of_ble_eq_true rfl) (mX7_may l D cy kd ln rh _ a0 c2 M1 hk0 h) dX7_position_6 (fun c5 M4 g6 h => ?_)
  have h := h g6
  refine q_if_ne (tgt := 14) C g6 (by decide) dX7_position_9 (fun b7 => ?_) (fun b7 => ?_)
  · have h := h.1 b7
    refine q_iload_n C 2 rfl rfl dX7_position_14 ?_
    refine q_iconst C dX7_position_15 ?_
    refine q_aload_n C 0 rfl rfl dX7_position_16 ?_
    obtain ⟨r8, h⟩ := h
    refine q_get (v := .ref (rh a0 7)) C fX7_33 hk0 (if_neg (Int.not_lt.mpr r8)) dX7_position_17 (fun g9 => ?_)
    refine q_iload_n C 1 rfl rfl dX7_position_20 ?_
    obtain ⟨r10, h⟩ := h
    refine q_iald C hk0 rfl (fun _ q => q) r10 dX7_position_21 (fun g11 => ?_)
    have h := h g11
    refine q_iconst C dX7_position_22 ?_
    refine q_isub C dX7_position_23 ?_
    refine q_callSI (As := [.int (gI a2), .int (gI 0), .int (gI ((M4 a0 7 a1) - 1))]) (st := []) C vX7_84 kX7_in ⟨Nat.le_of_ble_eq_true rfl, Nat.le_of_ble_eq_true rfl⟩ ⟨Nat.le_of_ble_eq_true rfl, Nat.le_of_ble_eq_true rfl⟩ rfl rfl (Nat.le_of_ble_eq_true rfl) (mX7_in l D cy kd ln rh _ a2 0 ((M4 a0 7 a1) - 1) M4  h) dX7_position_24 (fun c13 M12 g14 h => ?_)
    have h := h g14
    refine q_if_ne (tgt := 32) C g14 (by decide) dX7_position_27 (fun b15 => ?_) (fun b15 => ?_)
    · have h := h.1 b15
      refine q_iconst C dX7_position_32 ?_
      refine q_istore (lv' := [(4, .int (gI 0)), (0, .ref (gad a0)), (1, .int (gI a1)), (2, .int (gI a2)), (3, .int (gI a3))]) C (by decide) rfl dX7_position_33 ?_
      refine q_iconst C dX7_position_35 ?_
      refine q_aload_n C 1 rfl rfl dX7_position_36 ?_
      refine q_get (v := .int (gI (M12 a0 2 (-1)))) C fX7_13 hk0 rfl dX7_position_37 (fun g16 => ?_)
      have h := h g16
      refine q_imul C dX7_position_40 ?_
      refine q_aload_n C 1 rfl rfl dX7_position_41 ?_
      refine q_get (v := .int (gI (M12 a0 2 (-1)))) C fX7_13 hk0 rfl dX7_position_42 (fun g17 => ?_)
      refine q_imul C dX7_position_45 ?_
      refine q_aload_n C 1 rfl rfl dX7_position_46 ?_
      refine q_get (v := .int (gI (M12 a0 2 (-1)))) C fX7_13 hk0 rfl dX7_position_47 (fun g18 => ?_)
      refine q_imul C dX7_position_50 ?_
      refine q_iconst C dX7_position_51 ?_
      refine q_isub C dX7_position_52 ?_
      refine q_iconst C dX7_position_53 ?_
      refine q_ishr C dX7_position_54 ?_
      refine q_topi (fun v19 ev19 => ?_)
      have h := h v19 ev19
      refine q_istore (lv' := [(5, .int (gI v19)), (4, .int (gI 0)), (0, .ref (gad a0)), (1, .int (gI a1)), (2, .int (gI a2)), (3, .int (gI a3))]) C (by decide) rfl dX7_position_55 ?_
      refine q_lv (lv' := [(0, .ref (gad a0)), (1, .int (gI a1)), (2, .int (gI a2)), (3, .int (gI a3)), (4, .int (gI 0)), (5, .int (gI v19))]) [2, 3, 4, 5, 1, 0] rfl ?_
      obtain ⟨j57, h⟩ := h
      exact t57  j57 0 v19 M12 h
    · have h := h.2 b15
      refine q_iconst C dX7_position_30 ?_
      exact hret (-1) M12 _ _ dX7_position_31 (show rng (-1) by decide) h
  · have h := h.2 b7
    refine q_iconst C dX7_position_12 ?_
    exact hret 0 M4 _ _ dX7_position_13 (show rng 0 by decide) h
set_option maxHeartbeats 4000000 in
set_option maxRecDepth 100000 in
theorem mX7_squareAt (l : Launch) (D : va_G) (cy : Nat → ClassId) (kd : gKd) (ln : gLn) (rh : gRh) (post : Int → gM → Prop) (a0 : Int) (a1 : Int) (M : gM) (hk0 : kd a0 = 7) (h : wX7_squareAt kd ln post a0 a1 M) : gMI l D cy yX7_squareAt cX7_squareAt 4 .int 1 22 [.ref (gad a0), .int (gI a1)] kd ln rh M post := by
  refine gMI_of (own := RX7) (by decide) rfl (Nat.le_of_ble_eq_true rfl) ?_
  intro p e s m args below meth c A H0 Q C hret
  unfold wX7_squareAt at h
  refine q_aload_n C 0 rfl rfl dX7_squareAt_0 ?_
  obtain ⟨r1, h⟩ := h
  refine q_get (v := .ref (rh a0 8)) C fX7_36 hk0 (if_neg (Int.not_lt.mpr r1)) dX7_squareAt_1 (fun g2 => ?_)
  refine q_iload_n C 1 rfl rfl dX7_squareAt_4 ?_
  obtain ⟨r3, h⟩ := h
  refine q_bald C hk0 rfl (fun _ q => q) r3 dX7_squareAt_5 (fun g4 => ?_)
  have h := h g4
  refine q_bipush C (by decide) dX7_squareAt_6 ?_
  refine q_isub C dX7_squareAt_8 ?_
  refine q_topi (fun v5 ev5 => ?_)
  have h := h v5 ev5
  refine q_istore_n (lv' := [(2, .int (gI v5)), (0, .ref (gad a0)), (1, .int (gI a1))]) C rfl (by decide) rfl dX7_squareAt_9 ?_
  refine q_aload_n C 1 rfl rfl dX7_squareAt_10 ?_
  refine q_get (v := .ref (rh a0 8)) C fX7_36 hk0 (if_neg (Int.not_lt.mpr r1)) dX7_squareAt_11 (fun g6 => ?_)
  refine q_iload_n C 2 rfl rfl dX7_squareAt_14 ?_
  refine q_iconst C dX7_squareAt_15 ?_
  refine q_iadd C dX7_squareAt_16 ?_
  obtain ⟨r7, h⟩ := h
  refine q_bald C hk0 rfl (fun _ q => q) r7 dX7_squareAt_17 (fun g8 => ?_)
  have h := h g8
  refine q_bipush C (by decide) dX7_squareAt_18 ?_
  refine q_isub C dX7_squareAt_20 ?_
  refine q_topi (fun v9 ev9 => ?_)
  have h := h v9 ev9
  refine q_istore_n (lv' := [(3, .int (gI v9)), (2, .int (gI v5)), (0, .ref (gad a0)), (1, .int (gI a1))]) C rfl (by decide) rfl dX7_squareAt_21 ?_
  refine q_iload_n C 1 rfl rfl dX7_squareAt_22 ?_
  refine q_iconst C dX7_squareAt_23 ?_
  refine q_aload_n C 2 rfl rfl dX7_squareAt_24 ?_
  refine q_get (v := .int (gI (M a0 1 (-1)))) C fX7_7 hk0 rfl dX7_squareAt_25 (fun g10 => ?_)
  have h := h g10
  refine q_iconst C dX7_squareAt_28 ?_
  refine q_isub C dX7_squareAt_29 ?_
  refine q_callSI (As := [.int (gI v5), .int (gI 0), .int (gI ((M a0 1 (-1)) - 1))]) (st := []) C vX7_84 kX7_in ⟨Nat.le_of_ble_eq_true rfl, Nat.le_of_ble_eq_true rfl⟩ ⟨Nat.le_of_ble_eq_true rfl, Nat.le_of_ble_eq_true rfl⟩ rfl rfl (Nat.le_of_ble_eq_true rfl) (mX7_in l D cy kd ln rh _ v5 0 ((M a0 1 (-1)) - 1) M  h) dX7_squareAt_30 (fun c12 M11 g13 h => ?_)
  have h := h g13
  refine q_if_eq (tgt := 61) C g13 (by decide) dX7_squareAt_33 (fun b14 => ?_) (fun b14 => ?_)
  · have h := h.1 b14
    refine q_iconst C dX7_squareAt_61 ?_
    exact hret (-1) M11 _ _ dX7_squareAt_62 (show rng (-1) by decide) h
  · have h := h.2 b14
    refine q_iload_n C 0 rfl rfl dX7_squareAt_36 ?_
    refine q_iconst C dX7_squareAt_37 ?_
    refine q_aload_n C 2 rfl rfl dX7_squareAt_38 ?_
    refine q_get (v := .int (gI (M11 a0 1 (-1)))) C fX7_7 hk0 rfl dX7_squareAt_39 (fun g15 => ?_)
    have h := h g15
    refine q_iconst C dX7_squareAt_42 ?_
    refine q_isub C dX7_squareAt_43 ?_
    refine q_callSI (As := [.int (gI v9), .int (gI 0), .int (gI ((M11 a0 1 (-1)) - 1))]) (st := []) C vX7_84 kX7_in ⟨Nat.le_of_ble_eq_true rfl, Nat.le_of_ble_eq_true rfl⟩ ⟨Nat.le_of_ble_eq_true rfl, Nat.le_of_ble_eq_true rfl⟩ rfl rfl (Nat.le_of_ble_eq_true rfl) (mX7_in l D cy kd ln rh _ v9 0 ((M11 a0 1 (-1)) - 1) M11  h) dX7_squareAt_44 (fun c17 M16 g18 h => ?_)
    have h := h g18
    refine q_if_eq (tgt := 61) C g18 (by decide) dX7_squareAt_47 (fun b19 => ?_) (fun b19 => ?_)
    · have h := h.1 b19
      refine q_iconst C dX7_squareAt_61 ?_
      exact hret (-1) M16 _ _ dX7_squareAt_62 (show rng (-1) by decide) h
    · have h := h.2 b19
      refine q_aload_n C 2 rfl rfl dX7_squareAt_50 ?_
      refine q_get (v := .int (gI (M16 a0 1 (-1)))) C fX7_7 hk0 rfl dX7_squareAt_51 (fun g20 => ?_)
      have h := h g20
      refine q_iload_n C 0 rfl rfl dX7_squareAt_54 ?_
      refine q_imul C dX7_squareAt_55 ?_
      refine q_iload_n C 1 rfl rfl dX7_squareAt_56 ?_
      refine q_iadd C dX7_squareAt_57 ?_
      refine q_goto (tgt := 62) C (by decide) dX7_squareAt_58 ?_
      obtain ⟨r21, h⟩ := h
      exact hret (((M16 a0 1 (-1)) * v9) + v5) M16 _ _ dX7_squareAt_62 r21 h
set_option maxHeartbeats 4000000 in
set_option maxRecDepth 100000 in
theorem mX7_read (l : Launch) (D : va_G) (cy : Nat → ClassId) (kd : gKd) (ln : gLn) (rh : gRh) (post : Int → gM → Prop) (a0 : Int) (a1 : Int) (M : gM) (hk0 : kd a0 = 7) (h : wX7_read kd ln post a0 a1 M) : gMI l D cy yX7_read cX7_read 7 .int 4 100 [.ref (gad a0), .int (gI a1)] kd ln rh M post := by
  refine gMI_of (own := RX7) (by decide) rfl (Nat.le_of_ble_eq_true rfl) ?_
  intro p e s m args below meth c A H0 Q C hret
  have t171 : ∀ (x2 : Int) (y0 : Int) (M : gM), wX7_read_171 kd ln post a0 a1 x2 y0 M → gW p l e (gRm 4 100) s m args below meth c D cy A H0 Q 7 kd ln rh 0 0 M 171 [(0, .ref (gad a0)), (2, .int (gI x2))] [.int (gI y0)] := by
    intro  x2 y0 M h
    unfold wX7_read_171 at h
    refine q_istore_n (lv' := [(3, .int (gI y0)), (0, .ref (gad a0)), (2, .int (gI x2))]) C rfl (by decide) rfl dX7_read_171 ?_
    refine q_aload_n C 1 rfl rfl dX7_read_172 ?_
    refine q_iconst C dX7_read_173 ?_
    refine q_callVI (As := [.int (gI 1)]) (st := []) C vX7_214 kX7_squareAt ⟨Nat.le_of_ble_eq_true rfl, Nat.le_of_ble_eq_true rfl⟩ ⟨Nat.le_of_ble_eq_true rfl, Nat.le_of_ble_eq_true rfl⟩ rfl hk0 ⟨_, _, rfl⟩ (by decide) rfl (Nat.le_of_ble_eq_true rfl) (mX7_squareAt l D cy kd ln rh _ a0 1 M hk0 h) dX7_read_174 (fun c48 M47 g49 h => ?_)
    have h := h g49
    refine q_istore (lv' := [(4, .int (gI c48)), (3, .int (gI y0)), (0, .ref (gad a0)), (2, .int (gI x2))]) C (by decide) rfl dX7_read_177 ?_
    refine q_aload_n C 2 rfl rfl dX7_read_179 ?_
    refine q_iconst C dX7_read_180 ?_
    refine q_callVI (As := [.int (gI 5)]) (st := []) C vX7_214 kX7_squareAt ⟨Nat.le_of_ble_eq_true rfl, Nat.le_of_ble_eq_true rfl⟩ ⟨Nat.le_of_ble_eq_true rfl, Nat.le_of_ble_eq_true rfl⟩ rfl hk0 ⟨_, _, rfl⟩ (by decide) rfl (Nat.le_of_ble_eq_true rfl) (mX7_squareAt l D cy kd ln rh _ a0 5 M47 hk0 h) dX7_read_181 (fun c51 M50 g52 h => ?_)
    have h := h g52
    refine q_istore (lv' := [(5, .int (gI c51)), (4, .int (gI c48)), (3, .int (gI y0)), (0, .ref (gad a0)), (2, .int (gI x2))]) C (by decide) rfl dX7_read_184 ?_
    refine q_aload_n C 3 rfl rfl dX7_read_186 ?_
    refine q_bipush C (by decide) dX7_read_187 ?_
    refine q_callVI (As := [.int (gI 9)]) (st := []) C vX7_214 kX7_squareAt ⟨Nat.le_of_ble_eq_true rfl, Nat.le_of_ble_eq_true rfl⟩ ⟨Nat.le_of_ble_eq_true rfl, Nat.le_of_ble_eq_true rfl⟩ rfl hk0 ⟨_, _, rfl⟩ (by decide) rfl (Nat.le_of_ble_eq_true rfl) (mX7_squareAt l D cy kd ln rh _ a0 9 M50 hk0 h) dX7_read_189 (fun c54 M53 g55 h => ?_)
    have h := h g55
    refine q_istore (lv' := [(6, .int (gI c54)), (5, .int (gI c51)), (4, .int (gI c48)), (3, .int (gI y0)), (0, .ref (gad a0)), (2, .int (gI x2))]) C (by decide) rfl dX7_read_192 ?_
    refine q_aload_n C 4 rfl rfl dX7_read_194 ?_
    refine q_iload_n C 5 rfl rfl dX7_read_195 ?_
    refine q_iload C 2 rfl dX7_read_196 ?_
    refine q_iload C 0 rfl dX7_read_198 ?_
    refine q_iload C 1 rfl dX7_read_200 ?_
    refine q_iload_n C 3 rfl rfl dX7_read_202 ?_
    refine q_callVI (As := [.int (gI x2), .int (gI c48), .int (gI c54), .int (gI c51), .int (gI y0)]) (st := []) C vX7_183 kX7_areNumbers ⟨Nat.le_of_ble_eq_true rfl, Nat.le_of_ble_eq_true rfl⟩ ⟨Nat.le_of_ble_eq_true rfl, Nat.le_of_ble_eq_true rfl⟩ rfl hk0 ⟨_, _, rfl⟩ (by decide) rfl (Nat.le_of_ble_eq_true rfl) (mX7_areNumbers l D cy kd ln rh _ a0 x2 c48 c54 c51 y0 M53 hk0 h) dX7_read_203 (fun c57 M56 g58 h => ?_)
    have h := h g58
    refine q_if_eq (tgt := 224) C g58 (by decide) dX7_read_206 (fun b59 => ?_) (fun b59 => ?_)
    · have h := h.1 b59
      refine q_iconst C dX7_read_224 ?_
      exact hret (-1) M56 _ _ dX7_read_225 (show rng (-1) by decide) h
    · have h := h.2 b59
      refine q_aload_n C 4 rfl rfl dX7_read_209 ?_
      refine q_iload_n C 5 rfl rfl dX7_read_210 ?_
      refine q_iload C 2 rfl dX7_read_211 ?_
      refine q_iload C 0 rfl dX7_read_213 ?_
      refine q_iload C 1 rfl dX7_read_215 ?_
      refine q_iload_n C 3 rfl rfl dX7_read_217 ?_
      refine q_callVI (As := [.int (gI x2), .int (gI c48), .int (gI c54), .int (gI c51), .int (gI y0)]) (st := []) C vX7_107 kX7_legal ⟨Nat.le_of_ble_eq_true rfl, Nat.le_of_ble_eq_true rfl⟩ ⟨Nat.le_of_ble_eq_true rfl, Nat.le_of_ble_eq_true rfl⟩ rfl hk0 ⟨_, _, rfl⟩ (by decide) rfl (Nat.le_of_ble_eq_true rfl) (mX7_legal l D cy kd ln rh _ a0 x2 c48 c54 c51 y0 M56 hk0 h) dX7_read_218 (fun c61 M60 g62 h => ?_)
      have h := h g62
      refine q_if_ne (tgt := 226) C g62 (by decide) dX7_read_221 (fun b63 => ?_) (fun b63 => ?_)
      · have h := h.1 b63
        refine q_aload_n C 4 rfl rfl dX7_read_226 ?_
        refine q_iload C 2 rfl dX7_read_227 ?_
        refine q_iload C 0 rfl dX7_read_229 ?_
        refine q_iload C 1 rfl dX7_read_231 ?_
        refine q_iload_n C 3 rfl rfl dX7_read_233 ?_
        refine q_callVI (As := [.int (gI c48), .int (gI c54), .int (gI c51), .int (gI y0)]) (st := []) C vX7_119 kX7_key ⟨Nat.le_of_ble_eq_true rfl, Nat.le_of_ble_eq_true rfl⟩ ⟨Nat.le_of_ble_eq_true rfl, Nat.le_of_ble_eq_true rfl⟩ rfl hk0 ⟨_, _, rfl⟩ (by decide) rfl (Nat.le_of_ble_eq_true rfl) (mX7_key l D cy kd ln rh _ a0 c48 c54 c51 y0 M60 hk0 h) dX7_read_234 (fun c65 M64 g66 h => ?_)
        have h := h g66
        refine q_iconst C dX7_read_237 ?_
        refine q_aload_n C 4 rfl rfl dX7_read_238 ?_
        refine q_get (v := .int (gI (M64 a0 2 (-1)))) C fX7_13 hk0 rfl dX7_read_239 (fun g67 => ?_)
        have h := h g67
        refine q_imul C dX7_read_242 ?_
        refine q_aload_n C 4 rfl rfl dX7_read_243 ?_
        refine q_get (v := .int (gI (M64 a0 2 (-1)))) C fX7_13 hk0 rfl dX7_read_244 (fun g68 => ?_)
        refine q_imul C dX7_read_247 ?_
        refine q_aload_n C 4 rfl rfl dX7_read_248 ?_
        refine q_get (v := .int (gI (M64 a0 2 (-1)))) C fX7_13 hk0 rfl dX7_read_249 (fun g69 => ?_)
        refine q_imul C dX7_read_252 ?_
        refine q_iload_n C 5 rfl rfl dX7_read_253 ?_
        refine q_imul C dX7_read_254 ?_
        refine q_iadd C dX7_read_255 ?_
        obtain ⟨r70, h⟩ := h
        exact hret (c65 + ((((2 * (M64 a0 2 (-1))) * (M64 a0 2 (-1))) * (M64 a0 2 (-1))) * x2)) M64 _ _ dX7_read_256 r70 h
      · have h := h.2 b63
        refine q_iconst C dX7_read_224 ?_
        exact hret (-1) M60 _ _ dX7_read_225 (show rng (-1) by decide) h
  have t137 : ∀ (y0 : Int) (M : gM), wX7_read_137 kd ln post a0 a1 y0 M → gW p l e (gRm 4 100) s m args below meth c D cy A H0 Q 7 kd ln rh 0 0 M 137 [(0, .ref (gad a0))] [.int (gI y0)] := by
    intro  y0 M h
    unfold wX7_read_137 at h
    refine q_istore_n (lv' := [(2, .int (gI y0)), (0, .ref (gad a0))]) C rfl (by decide) rfl dX7_read_137 ?_
    refine q_aload_n C 1 rfl rfl dX7_read_138 ?_
    obtain ⟨r39, h⟩ := h
    refine q_get (v := .ref (rh a0 8)) C fX7_36 hk0 (if_neg (Int.not_lt.mpr r39)) dX7_read_139 (fun g40 => ?_)
    refine q_bipush C (by decide) dX7_read_142 ?_
    obtain ⟨r41, h⟩ := h
    refine q_bald C hk0 rfl (fun _ q => q) r41 dX7_read_144 (fun g42 => ?_)
    have h := h g42
    refine q_bipush C (by decide) dX7_read_145 ?_
    refine q_icmp_ne (tgt := 154) C g42 (show rng 119 by decide) (by decide) dX7_read_147 (fun b43 => ?_) (fun b43 => ?_)
    · have h := h.1 b43
      refine q_aload_n C 1 rfl rfl dX7_read_154 ?_
      refine q_get (v := .ref (rh a0 8)) C fX7_36 hk0 (if_neg (Int.not_lt.mpr r39)) dX7_read_155 (fun g44 => ?_)
      refine q_bipush C (by decide) dX7_read_158 ?_
      refine q_bald C hk0 rfl (fun _ q => q) r41 dX7_read_160 (fun g45 => ?_)
      refine q_bipush C (by decide) dX7_read_161 ?_
      refine q_icmp_ne (tgt := 170) C g42 (show rng 98 by decide) (by decide) dX7_read_163 (fun b46 => ?_) (fun b46 => ?_)
      · have h := h.1 b46
        refine q_iconst C dX7_read_170 ?_
        refine q_lv (lv' := [(0, .ref (gad a0)), (2, .int (gI y0))]) [1, 0] rfl ?_
        exact t171  y0 (-1) M h
      · have h := h.2 b46
        refine q_iconst C dX7_read_166 ?_
        refine q_goto (tgt := 171) C (by decide) dX7_read_167 ?_
        refine q_lv (lv' := [(0, .ref (gad a0)), (2, .int (gI y0))]) [1, 0] rfl ?_
        exact t171  y0 1 M h
    · have h := h.2 b43
      refine q_iconst C dX7_read_150 ?_
      refine q_goto (tgt := 171) C (by decide) dX7_read_151 ?_
      refine q_lv (lv' := [(0, .ref (gad a0)), (2, .int (gI y0))]) [1, 0] rfl ?_
      exact t171  y0 0 M h
  unfold wX7_read at h
  refine q_aload_n C 0 rfl rfl dX7_read_0 ?_
  refine q_iconst C dX7_read_1 ?_
  refine q_put (x := 0) (ty := .int) C fX7_81 hk0 (fun _ _ _ q => by cases q; rfl) (congrArg (fun z => Value.int (gI z)) gu_s) rfl rfl (show rng 0 by decide) (fun j q => absurd (show (0 : Nat) = j + 3 from q) (by omega)) dX7_read_2 ?_
  refine q_iload_n C 1 rfl rfl dX7_read_5 ?_
  refine q_iconst C dX7_read_6 ?_
  refine q_aload_n C 0 rfl rfl dX7_read_7 ?_
  refine q_get (v := .int (gI ((gu M a0 0 (-1) 0) a0 9 (-1)))) C fX7_208 hk0 rfl dX7_read_8 (fun g1 => ?_)
  have h := h g1
  refine q_callSI (As := [.int (gI a1), .int (gI 0), .int (gI ((gu M a0 0 (-1) 0) a0 9 (-1)))]) (st := []) C vX7_84 kX7_in ⟨Nat.le_of_ble_eq_true rfl, Nat.le_of_ble_eq_true rfl⟩ ⟨Nat.le_of_ble_eq_true rfl, Nat.le_of_ble_eq_true rfl⟩ rfl rfl (Nat.le_of_ble_eq_true rfl) (mX7_in l D cy kd ln rh _ a1 0 ((gu M a0 0 (-1) 0) a0 9 (-1)) (gu M a0 0 (-1) 0)  h) dX7_read_11 (fun c3 M2 g4 h => ?_)
  have h := h g4
  refine q_if_ne (tgt := 20) C g4 (by decide) dX7_read_14 (fun b5 => ?_) (fun b5 => ?_)
  · have h := h.1 b5
    refine q_aload_n C 0 rfl rfl dX7_read_20 ?_
    refine q_iconst C dX7_read_21 ?_
    refine q_put (x := 0) (ty := .int) C fX7_208 hk0 (fun _ _ _ q => by cases q; rfl) (congrArg (fun z => Value.int (gI z)) gu_s) rfl rfl (show rng 0 by decide) (fun j q => absurd (show (0 : Nat) = j + 3 from q) (by omega)) dX7_read_22 ?_
    refine q_iload_n C 1 rfl rfl dX7_read_25 ?_
    refine q_bipush C (by decide) dX7_read_26 ?_
    obtain ⟨r6, h⟩ := h
    refine q_icmp_ne (tgt := 89) C r6 (show rng 13 by decide) (by decide) dX7_read_28 (fun b7 => ?_) (fun b7 => ?_)
    · have h := h.1 b7
      refine q_iconst C dX7_read_89 ?_
      exact hret (-1) (gu M2 a0 9 (-1) 0) _ _ dX7_read_90 (show rng (-1) by decide) h
    · have h := h.2 b7
      refine q_aload_n C 0 rfl rfl dX7_read_31 ?_
      obtain ⟨r8, h⟩ := h
      refine q_get (v := .ref (rh a0 8)) C fX7_36 hk0 (if_neg (Int.not_lt.mpr r8)) dX7_read_32 (fun g9 => ?_)
      refine q_iconst C dX7_read_35 ?_
      obtain ⟨r10, h⟩ := h
      refine q_bald C hk0 rfl (fun _ q => q) r10 dX7_read_36 (fun g11 => ?_)
      have h := h g11
      refine q_bipush C (by decide) dX7_read_37 ?_
      refine q_icmp_ne (tgt := 89) C g11 (show rng 75 by decide) (by decide) dX7_read_39 (fun b12 => ?_) (fun b12 => ?_)
      · have h := h.1 b12
        refine q_iconst C dX7_read_89 ?_
        exact hret (-1) (gu M2 a0 9 (-1) 0) _ _ dX7_read_90 (show rng (-1) by decide) h
      · have h := h.2 b12
        refine q_aload_n C 0 rfl rfl dX7_read_42 ?_
        refine q_get (v := .ref (rh a0 8)) C fX7_36 hk0 (if_neg (Int.not_lt.mpr r8)) dX7_read_43 (fun g13 => ?_)
        refine q_iconst C dX7_read_46 ?_
        obtain ⟨r14, h⟩ := h
        refine q_bald C hk0 rfl (fun _ q => q) r14 dX7_read_47 (fun g15 => ?_)
        have h := h g15
        refine q_bipush C (by decide) dX7_read_48 ?_
        refine q_icmp_ne (tgt := 89) C g15 (show rng 32 by decide) (by decide) dX7_read_50 (fun b16 => ?_) (fun b16 => ?_)
        · have h := h.1 b16
          refine q_iconst C dX7_read_89 ?_
          exact hret (-1) (gu M2 a0 9 (-1) 0) _ _ dX7_read_90 (show rng (-1) by decide) h
        · have h := h.2 b16
          refine q_aload_n C 0 rfl rfl dX7_read_53 ?_
          refine q_get (v := .ref (rh a0 8)) C fX7_36 hk0 (if_neg (Int.not_lt.mpr r8)) dX7_read_54 (fun g17 => ?_)
          refine q_bipush C (by decide) dX7_read_57 ?_
          obtain ⟨r18, h⟩ := h
          refine q_bald C hk0 rfl (fun _ q => q) r18 dX7_read_59 (fun g19 => ?_)
          have h := h g19
          refine q_bipush C (by decide) dX7_read_60 ?_
          refine q_icmp_ne (tgt := 89) C g19 (show rng 32 by decide) (by decide) dX7_read_62 (fun b20 => ?_) (fun b20 => ?_)
          · have h := h.1 b20
            refine q_iconst C dX7_read_89 ?_
            exact hret (-1) (gu M2 a0 9 (-1) 0) _ _ dX7_read_90 (show rng (-1) by decide) h
          · have h := h.2 b20
            refine q_aload_n C 0 rfl rfl dX7_read_65 ?_
            refine q_get (v := .ref (rh a0 8)) C fX7_36 hk0 (if_neg (Int.not_lt.mpr r8)) dX7_read_66 (fun g21 => ?_)
            refine q_bipush C (by decide) dX7_read_69 ?_
            obtain ⟨r22, h⟩ := h
            refine q_bald C hk0 rfl (fun _ q => q) r22 dX7_read_71 (fun g23 => ?_)
            have h := h g23
            refine q_bipush C (by decide) dX7_read_72 ?_
            refine q_icmp_ne (tgt := 89) C g23 (show rng 107 by decide) (by decide) dX7_read_74 (fun b24 => ?_) (fun b24 => ?_)
            · have h := h.1 b24
              refine q_iconst C dX7_read_89 ?_
              exact hret (-1) (gu M2 a0 9 (-1) 0) _ _ dX7_read_90 (show rng (-1) by decide) h
            · have h := h.2 b24
              refine q_aload_n C 0 rfl rfl dX7_read_77 ?_
              refine q_get (v := .ref (rh a0 8)) C fX7_36 hk0 (if_neg (Int.not_lt.mpr r8)) dX7_read_78 (fun g25 => ?_)
              refine q_bipush C (by decide) dX7_read_81 ?_
              obtain ⟨r26, h⟩ := h
              refine q_bald C hk0 rfl (fun _ q => q) r26 dX7_read_83 (fun g27 => ?_)
              have h := h g27
              refine q_bipush C (by decide) dX7_read_84 ?_
              refine q_icmp_eq (tgt := 91) C g27 (show rng 32 by decide) (by decide) dX7_read_86 (fun b28 => ?_) (fun b28 => ?_)
              · have h := h.1 b28
                refine q_aload_n C 0 rfl rfl dX7_read_91 ?_
                refine q_get (v := .ref (rh a0 8)) C fX7_36 hk0 (if_neg (Int.not_lt.mpr r8)) dX7_read_92 (fun g29 => ?_)
                refine q_iconst C dX7_read_95 ?_
                obtain ⟨r30, h⟩ := h
                refine q_bald C hk0 rfl (fun _ q => q) r30 dX7_read_96 (fun g31 => ?_)
                have h := h g31
                refine q_bipush C (by decide) dX7_read_97 ?_
                refine q_icmp_ne (tgt := 106) C g31 (show rng 81 by decide) (by decide) dX7_read_99 (fun b32 => ?_) (fun b32 => ?_)
                · have h := h.1 b32
                  refine q_aload_n C 0 rfl rfl dX7_read_106 ?_
                  refine q_get (v := .ref (rh a0 8)) C fX7_36 hk0 (if_neg (Int.not_lt.mpr r8)) dX7_read_107 (fun g33 => ?_)
                  refine q_iconst C dX7_read_110 ?_
                  refine q_bald C hk0 rfl (fun _ q => q) r30 dX7_read_111 (fun g34 => ?_)
                  refine q_bipush C (by decide) dX7_read_112 ?_
                  refine q_icmp_ne (tgt := 121) C g31 (show rng 82 by decide) (by decide) dX7_read_114 (fun b35 => ?_) (fun b35 => ?_)
                  · have h := h.1 b35
                    refine q_aload_n C 0 rfl rfl dX7_read_121 ?_
                    refine q_get (v := .ref (rh a0 8)) C fX7_36 hk0 (if_neg (Int.not_lt.mpr r8)) dX7_read_122 (fun g36 => ?_)
                    refine q_iconst C dX7_read_125 ?_
                    refine q_bald C hk0 rfl (fun _ q => q) r30 dX7_read_126 (fun g37 => ?_)
                    refine q_bipush C (by decide) dX7_read_127 ?_
                    refine q_icmp_ne (tgt := 136) C g31 (show rng 80 by decide) (by decide) dX7_read_129 (fun b38 => ?_) (fun b38 => ?_)
                    · have h := h.1 b38
                      refine q_iconst C dX7_read_136 ?_
                      refine q_lv (lv' := [(0, .ref (gad a0))]) [0] rfl ?_
                      exact t137  (-1) (gu M2 a0 9 (-1) 0) h
                    · have h := h.2 b38
                      refine q_iconst C dX7_read_132 ?_
                      refine q_goto (tgt := 137) C (by decide) dX7_read_133 ?_
                      refine q_lv (lv' := [(0, .ref (gad a0))]) [0] rfl ?_
                      exact t137  2 (gu M2 a0 9 (-1) 0) h
                  · have h := h.2 b35
                    refine q_iconst C dX7_read_117 ?_
                    refine q_goto (tgt := 137) C (by decide) dX7_read_118 ?_
                    refine q_lv (lv' := [(0, .ref (gad a0))]) [0] rfl ?_
                    exact t137  1 (gu M2 a0 9 (-1) 0) h
                · have h := h.2 b32
                  refine q_iconst C dX7_read_102 ?_
                  refine q_goto (tgt := 137) C (by decide) dX7_read_103 ?_
                  refine q_lv (lv' := [(0, .ref (gad a0))]) [0] rfl ?_
                  exact t137  0 (gu M2 a0 9 (-1) 0) h
              · have h := h.2 b28
                refine q_iconst C dX7_read_89 ?_
                exact hret (-1) (gu M2 a0 9 (-1) 0) _ _ dX7_read_90 (show rng (-1) by decide) h
  · have h := h.2 b5
    refine q_bipush C (by decide) dX7_read_17 ?_
    exact hret (-2) M2 _ _ dX7_read_19 (show rng (-2) by decide) h
set_option maxHeartbeats 4000000 in
set_option maxRecDepth 100000 in
theorem mX7_tell (l : Launch) (D : va_G) (cy : Nat → ClassId) (kd : gKd) (ln : gLn) (rh : gRh) (post : gM → Prop) (a0 : Int) (a1 : Int) (M : gM) (hk0 : kd a0 = 7) (h : wX7_tell kd ln post a0 a1 M) : gMV l D cy yX7_tell cX7_tell 2 0 0 [.ref (gad a0), .int (gI a1)] kd ln rh M post := by
  refine gMV_of (own := RX7) (by decide) rfl (Nat.le_of_ble_eq_true rfl) ?_
  intro p e s m args below meth c A H0 Q C hret
  unfold wX7_tell at h
  refine q_aload_n C 0 rfl rfl dX7_tell_0 ?_
  obtain ⟨r1, h⟩ := h
  refine q_get (v := .ref (rh a0 10)) C fX7_39 hk0 (if_neg (Int.not_lt.mpr r1)) dX7_tell_1 (fun g2 => ?_)
  refine q_aload_n C 0 rfl rfl dX7_tell_4 ?_
  refine q_get (v := .int (gI (M a0 11 (-1)))) C fX7_217 hk0 rfl dX7_tell_5 (fun g3 => ?_)
  have h := h g3
  refine q_iload_n C 1 rfl rfl dX7_tell_8 ?_
  refine q_i2b C dX7_tell_9 ?_
  obtain ⟨r4, h⟩ := h
  obtain ⟨r5, h⟩ := h
  refine q_bast C hk0 rfl (rng8 r5) r5 r4 dX7_tell_10 ?_
  refine q_aload_n C 0 rfl rfl dX7_tell_11 ?_
  refine q_dup C rfl dX7_tell_12 ?_
  refine q_get (v := .int (gI ((gu M a0 10 (M a0 11 (-1)) (gi2b a1)) a0 11 (-1)))) C fX7_217 hk0 rfl dX7_tell_13 (fun g6 => ?_)
  have h := h g6
  refine q_iconst C dX7_tell_16 ?_
  refine q_iadd C dX7_tell_17 ?_
  obtain ⟨r7, h⟩ := h
  refine q_put (x := (((gu M a0 10 (M a0 11 (-1)) (gi2b a1)) a0 11 (-1)) + 1)) (ty := .int) C fX7_217 hk0 (fun _ _ _ q => by cases q; rfl) (congrArg (fun z => Value.int (gI z)) gu_s) rfl rfl r7 (fun j q => absurd (show (0 : Nat) = j + 3 from q) (by omega)) dX7_tell_18 ?_
  exact hret (gu (gu M a0 10 (M a0 11 (-1)) (gi2b a1)) a0 11 (-1) (((gu M a0 10 (M a0 11 (-1)) (gi2b a1)) a0 11 (-1)) + 1)) _ _ dX7_tell_21 h
set_option maxHeartbeats 4000000 in
set_option maxRecDepth 100000 in
theorem mX7_tellSquare (l : Launch) (D : va_G) (cy : Nat → ClassId) (kd : gKd) (ln : gLn) (rh : gRh) (post : gM → Prop) (a0 : Int) (a1 : Int) (M : gM) (hk0 : kd a0 = 7) (h : wX7_tellSquare kd ln post a0 a1 M) : gMV l D cy yX7_tellSquare cX7_tellSquare 2 1 21 [.ref (gad a0), .int (gI a1)] kd ln rh M post := by
  refine gMV_of (own := RX7) (by decide) rfl (Nat.le_of_ble_eq_true rfl) ?_
  intro p e s m args below meth c A H0 Q C hret
  unfold wX7_tellSquare at h
  refine q_aload_n C 0 rfl rfl dX7_tellSquare_0 ?_
  refine q_bipush C (by decide) dX7_tellSquare_1 ?_
  refine q_iload_n C 1 rfl rfl dX7_tellSquare_3 ?_
  refine q_aload_n C 0 rfl rfl dX7_tellSquare_4 ?_
  refine q_get (v := .int (gI (M a0 1 (-1)))) C fX7_7 hk0 rfl dX7_tellSquare_5 (fun g1 => ?_)
  have h := h g1
  obtain ⟨r2, h⟩ := h
  refine q_irem C r2 dX7_tellSquare_8 ?_
  refine q_iadd C dX7_tellSquare_9 ?_
  refine q_callVV (As := [.int (gI (97 + (a1 % (M a0 1 (-1)))))]) (st := []) C vX7_220 kX7_tell ⟨Nat.le_of_ble_eq_true rfl, Nat.le_of_ble_eq_true rfl⟩ ⟨Nat.le_of_ble_eq_true rfl, Nat.le_of_ble_eq_true rfl⟩ rfl hk0 ⟨_, _, rfl⟩ (by decide) rfl (Nat.le_of_ble_eq_true rfl) (mX7_tell l D cy kd ln rh _ a0 (97 + (a1 % (M a0 1 (-1)))) M hk0 h) dX7_tellSquare_10 (fun M3 h => ?_)
  refine q_aload_n C 0 rfl rfl dX7_tellSquare_13 ?_
  refine q_bipush C (by decide) dX7_tellSquare_14 ?_
  refine q_iload_n C 1 rfl rfl dX7_tellSquare_16 ?_
  refine q_aload_n C 0 rfl rfl dX7_tellSquare_17 ?_
  refine q_get (v := .int (gI (M3 a0 1 (-1)))) C fX7_7 hk0 rfl dX7_tellSquare_18 (fun g6 => ?_)
  have h := h g6
  obtain ⟨r7, h⟩ := h
  refine q_idiv C r7 dX7_tellSquare_21 ?_
  refine q_iadd C dX7_tellSquare_22 ?_
  refine q_callVV (As := [.int (gI (49 + (a1 / (M3 a0 1 (-1)))))]) (st := []) C vX7_220 kX7_tell ⟨Nat.le_of_ble_eq_true rfl, Nat.le_of_ble_eq_true rfl⟩ ⟨Nat.le_of_ble_eq_true rfl, Nat.le_of_ble_eq_true rfl⟩ rfl hk0 ⟨_, _, rfl⟩ (by decide) rfl (Nat.le_of_ble_eq_true rfl) (mX7_tell l D cy kd ln rh _ a0 (49 + (a1 / (M3 a0 1 (-1)))) M3 hk0 h) dX7_tellSquare_23 (fun M8 h => ?_)
  exact hret M8 _ _ dX7_tellSquare_26 h
set_option maxHeartbeats 4000000 in
set_option maxRecDepth 100000 in
theorem mX7_show (l : Launch) (D : va_G) (cy : Nat → ClassId) (kd : gKd) (ln : gLn) (rh : gRh) (post : Int → gM → Prop) (a0 : Int) (a1 : Int) (a2 : Int) (a3 : Int) (a4 : Int) (a5 : Int) (M : gM) (hk0 : kd a0 = 7) (h : wX7_show kd ln post a0 a1 a2 a3 a4 a5 M) : gMI l D cy yX7_show cX7_show 6 .int 4 100 [.ref (gad a0), .int (gI a1), .int (gI a2), .int (gI a3), .int (gI a4), .int (gI a5)] kd ln rh M post := by
  refine gMI_of (own := RX7) (by decide) rfl (Nat.le_of_ble_eq_true rfl) ?_
  intro p e s m args below meth c A H0 Q C hret
  have t124 : ∀ (y0 : Int) (M : gM), wX7_show_124 kd ln post a0 a1 a2 a3 a4 a5 y0 M → gW p l e (gRm 4 100) s m args below meth c D cy A H0 Q 6 kd ln rh 0 0 M 124 [(0, .ref (gad a0))] [.int (gI y0), .ref (gad a0)] := by
    intro  y0 M h
    unfold wX7_show_124 at h
    refine q_callVV (As := [.int (gI y0)]) (st := []) C vX7_220 kX7_tell ⟨Nat.le_of_ble_eq_true rfl, Nat.le_of_ble_eq_true rfl⟩ ⟨Nat.le_of_ble_eq_true rfl, Nat.le_of_ble_eq_true rfl⟩ rfl hk0 ⟨_, _, rfl⟩ (by decide) rfl (Nat.le_of_ble_eq_true rfl) (mX7_tell l D cy kd ln rh _ a0 y0 M hk0 h) dX7_show_124 (fun M41 h => ?_)
    refine q_aload_n C 0 rfl rfl dX7_show_127 ?_
    refine q_get (v := .int (gI (M41 a0 11 (-1)))) C fX7_217 hk0 rfl dX7_show_128 (fun g44 => ?_)
    have h := h g44
    exact hret (M41 a0 11 (-1)) M41 _ _ dX7_show_131 g44 h
  have t79 : ∀ (y0 : Int) (M : gM), wX7_show_79 kd ln post a0 a1 a2 a3 a4 a5 y0 M → gW p l e (gRm 4 100) s m args below meth c D cy A H0 Q 6 kd ln rh 0 0 M 79 [(0, .ref (gad a0)), (3, .int (gI a3)), (4, .int (gI a4)), (5, .int (gI a5))] [.int (gI y0), .ref (gad a0)] := by
    intro  y0 M h
    unfold wX7_show_79 at h
    refine q_callVV (As := [.int (gI y0)]) (st := []) C vX7_220 kX7_tell ⟨Nat.le_of_ble_eq_true rfl, Nat.le_of_ble_eq_true rfl⟩ ⟨Nat.le_of_ble_eq_true rfl, Nat.le_of_ble_eq_true rfl⟩ rfl hk0 ⟨_, _, rfl⟩ (by decide) rfl (Nat.le_of_ble_eq_true rfl) (mX7_tell l D cy kd ln rh _ a0 y0 M hk0 h) dX7_show_79 (fun M21 h => ?_)
    refine q_aload_n C 0 rfl rfl dX7_show_82 ?_
    refine q_iload C 2 rfl dX7_show_83 ?_
    refine q_callVV (As := [.int (gI a4)]) (st := []) C vX7_223 kX7_tellSquare ⟨Nat.le_of_ble_eq_true rfl, Nat.le_of_ble_eq_true rfl⟩ ⟨Nat.le_of_ble_eq_true rfl, Nat.le_of_ble_eq_true rfl⟩ rfl hk0 ⟨_, _, rfl⟩ (by decide) rfl (Nat.le_of_ble_eq_true rfl) (mX7_tellSquare l D cy kd ln rh _ a0 a4 M21 hk0 h) dX7_show_85 (fun M24 h => ?_)
    refine q_aload_n C 0 rfl rfl dX7_show_88 ?_
    refine q_bipush C (by decide) dX7_show_89 ?_
    refine q_callVV (As := [.int (gI 32)]) (st := []) C vX7_220 kX7_tell ⟨Nat.le_of_ble_eq_true rfl, Nat.le_of_ble_eq_true rfl⟩ ⟨Nat.le_of_ble_eq_true rfl, Nat.le_of_ble_eq_true rfl⟩ rfl hk0 ⟨_, _, rfl⟩ (by decide) rfl (Nat.le_of_ble_eq_true rfl) (mX7_tell l D cy kd ln rh _ a0 32 M24 hk0 h) dX7_show_91 (fun M27 h => ?_)
    refine q_aload_n C 0 rfl rfl dX7_show_94 ?_
    refine q_bipush C (by decide) dX7_show_95 ?_
    refine q_callVV (As := [.int (gI 107)]) (st := []) C vX7_220 kX7_tell ⟨Nat.le_of_ble_eq_true rfl, Nat.le_of_ble_eq_true rfl⟩ ⟨Nat.le_of_ble_eq_true rfl, Nat.le_of_ble_eq_true rfl⟩ rfl hk0 ⟨_, _, rfl⟩ (by decide) rfl (Nat.le_of_ble_eq_true rfl) (mX7_tell l D cy kd ln rh _ a0 107 M27 hk0 h) dX7_show_97 (fun M30 h => ?_)
    refine q_aload_n C 0 rfl rfl dX7_show_100 ?_
    refine q_iload_n C 1 rfl rfl dX7_show_101 ?_
    refine q_callVV (As := [.int (gI a3)]) (st := []) C vX7_223 kX7_tellSquare ⟨Nat.le_of_ble_eq_true rfl, Nat.le_of_ble_eq_true rfl⟩ ⟨Nat.le_of_ble_eq_true rfl, Nat.le_of_ble_eq_true rfl⟩ rfl hk0 ⟨_, _, rfl⟩ (by decide) rfl (Nat.le_of_ble_eq_true rfl) (mX7_tellSquare l D cy kd ln rh _ a0 a3 M30 hk0 h) dX7_show_102 (fun M33 h => ?_)
    refine q_aload_n C 0 rfl rfl dX7_show_105 ?_
    refine q_bipush C (by decide) dX7_show_106 ?_
    refine q_callVV (As := [.int (gI 32)]) (st := []) C vX7_220 kX7_tell ⟨Nat.le_of_ble_eq_true rfl, Nat.le_of_ble_eq_true rfl⟩ ⟨Nat.le_of_ble_eq_true rfl, Nat.le_of_ble_eq_true rfl⟩ rfl hk0 ⟨_, _, rfl⟩ (by decide) rfl (Nat.le_of_ble_eq_true rfl) (mX7_tell l D cy kd ln rh _ a0 32 M33 hk0 h) dX7_show_108 (fun M36 h => ?_)
    refine q_aload_n C 0 rfl rfl dX7_show_111 ?_
    refine q_iload C 3 rfl dX7_show_112 ?_
    obtain ⟨r39, h⟩ := h
    refine q_if_ne (tgt := 122) C r39 (by decide) dX7_show_114 (fun b40 => ?_) (fun b40 => ?_)
    · have h := h.1 b40
      refine q_bipush C (by decide) dX7_show_122 ?_
      refine q_lv (lv' := [(0, .ref (gad a0))]) [0] rfl ?_
      exact t124  98 M36 h
    · have h := h.2 b40
      refine q_bipush C (by decide) dX7_show_117 ?_
      refine q_goto (tgt := 124) C (by decide) dX7_show_119 ?_
      refine q_lv (lv' := [(0, .ref (gad a0))]) [0] rfl ?_
      exact t124  119 M36 h
  unfold wX7_show at h
  refine q_aload_n C 0 rfl rfl dX7_show_0 ?_
  refine q_iconst C dX7_show_1 ?_
  refine q_put (x := 0) (ty := .int) C fX7_81 hk0 (fun _ _ _ q => by cases q; rfl) (congrArg (fun z => Value.int (gI z)) gu_s) rfl rfl (show rng 0 by decide) (fun j q => absurd (show (0 : Nat) = j + 3 from q) (by omega)) dX7_show_2 ?_
  refine q_aload_n C 0 rfl rfl dX7_show_5 ?_
  refine q_iload_n C 1 rfl rfl dX7_show_6 ?_
  refine q_iload_n C 2 rfl rfl dX7_show_7 ?_
  refine q_iload_n C 3 rfl rfl dX7_show_8 ?_
  refine q_iload C 4 rfl dX7_show_9 ?_
  refine q_iload C 5 rfl dX7_show_11 ?_
  refine q_callVI (As := [.int (gI a1), .int (gI a2), .int (gI a3), .int (gI a4), .int (gI a5)]) (st := []) C vX7_183 kX7_areNumbers ⟨Nat.le_of_ble_eq_true rfl, Nat.le_of_ble_eq_true rfl⟩ ⟨Nat.le_of_ble_eq_true rfl, Nat.le_of_ble_eq_true rfl⟩ rfl hk0 ⟨_, _, rfl⟩ (by decide) rfl (Nat.le_of_ble_eq_true rfl) (mX7_areNumbers l D cy kd ln rh _ a0 a1 a2 a3 a4 a5 (gu M a0 0 (-1) 0) hk0 h) dX7_show_13 (fun c2 M1 g3 h => ?_)
  have h := h g3
  refine q_if_eq (tgt := 33) C g3 (by decide) dX7_show_16 (fun b4 => ?_) (fun b4 => ?_)
  · have h := h.1 b4
    refine q_iconst C dX7_show_33 ?_
    exact hret (-1) M1 _ _ dX7_show_34 (show rng (-1) by decide) h
  · have h := h.2 b4
    refine q_aload_n C 0 rfl rfl dX7_show_19 ?_
    refine q_iload_n C 1 rfl rfl dX7_show_20 ?_
    refine q_iload_n C 2 rfl rfl dX7_show_21 ?_
    refine q_iload_n C 3 rfl rfl dX7_show_22 ?_
    refine q_iload C 4 rfl dX7_show_23 ?_
    refine q_iload C 5 rfl dX7_show_25 ?_
    refine q_callVI (As := [.int (gI a1), .int (gI a2), .int (gI a3), .int (gI a4), .int (gI a5)]) (st := []) C vX7_107 kX7_legal ⟨Nat.le_of_ble_eq_true rfl, Nat.le_of_ble_eq_true rfl⟩ ⟨Nat.le_of_ble_eq_true rfl, Nat.le_of_ble_eq_true rfl⟩ rfl hk0 ⟨_, _, rfl⟩ (by decide) rfl (Nat.le_of_ble_eq_true rfl) (mX7_legal l D cy kd ln rh _ a0 a1 a2 a3 a4 a5 M1 hk0 h) dX7_show_27 (fun c6 M5 g7 h => ?_)
    have h := h g7
    refine q_if_ne (tgt := 35) C g7 (by decide) dX7_show_30 (fun b8 => ?_) (fun b8 => ?_)
    · have h := h.1 b8
      refine q_aload_n C 0 rfl rfl dX7_show_35 ?_
      refine q_iconst C dX7_show_36 ?_
      refine q_put (x := 0) (ty := .int) C fX7_217 hk0 (fun _ _ _ q => by cases q; rfl) (congrArg (fun z => Value.int (gI z)) gu_s) rfl rfl (show rng 0 by decide) (fun j q => absurd (show (0 : Nat) = j + 3 from q) (by omega)) dX7_show_37 ?_
      refine q_aload_n C 0 rfl rfl dX7_show_40 ?_
      refine q_bipush C (by decide) dX7_show_41 ?_
      refine q_callVV (As := [.int (gI 75)]) (st := []) C vX7_220 kX7_tell ⟨Nat.le_of_ble_eq_true rfl, Nat.le_of_ble_eq_true rfl⟩ ⟨Nat.le_of_ble_eq_true rfl, Nat.le_of_ble_eq_true rfl⟩ rfl hk0 ⟨_, _, rfl⟩ (by decide) rfl (Nat.le_of_ble_eq_true rfl) (mX7_tell l D cy kd ln rh _ a0 75 (gu M5 a0 11 (-1) 0) hk0 h) dX7_show_43 (fun M9 h => ?_)
      refine q_aload_n C 0 rfl rfl dX7_show_46 ?_
      refine q_iload_n C 2 rfl rfl dX7_show_47 ?_
      refine q_callVV (As := [.int (gI a2)]) (st := []) C vX7_223 kX7_tellSquare ⟨Nat.le_of_ble_eq_true rfl, Nat.le_of_ble_eq_true rfl⟩ ⟨Nat.le_of_ble_eq_true rfl, Nat.le_of_ble_eq_true rfl⟩ rfl hk0 ⟨_, _, rfl⟩ (by decide) rfl (Nat.le_of_ble_eq_true rfl) (mX7_tellSquare l D cy kd ln rh _ a0 a2 M9 hk0 h) dX7_show_48 (fun M12 h => ?_)
      refine q_aload_n C 0 rfl rfl dX7_show_51 ?_
      refine q_bipush C (by decide) dX7_show_52 ?_
      refine q_callVV (As := [.int (gI 32)]) (st := []) C vX7_220 kX7_tell ⟨Nat.le_of_ble_eq_true rfl, Nat.le_of_ble_eq_true rfl⟩ ⟨Nat.le_of_ble_eq_true rfl, Nat.le_of_ble_eq_true rfl⟩ rfl hk0 ⟨_, _, rfl⟩ (by decide) rfl (Nat.le_of_ble_eq_true rfl) (mX7_tell l D cy kd ln rh _ a0 32 M12 hk0 h) dX7_show_54 (fun M15 h => ?_)
      refine q_aload_n C 0 rfl rfl dX7_show_57 ?_
      refine q_iload_n C 1 rfl rfl dX7_show_58 ?_
      obtain ⟨r18, h⟩ := h
      refine q_if_ne (tgt := 67) C r18 (by decide) dX7_show_59 (fun b19 => ?_) (fun b19 => ?_)
      · have h := h.1 b19
        refine q_iload_n C 1 rfl rfl dX7_show_67 ?_
        refine q_iconst C dX7_show_68 ?_
        refine q_icmp_ne (tgt := 77) C r18 (show rng 1 by decide) (by decide) dX7_show_69 (fun b20 => ?_) (fun b20 => ?_)
        · have h := h.1 b20
          refine q_bipush C (by decide) dX7_show_77 ?_
          refine q_lv (lv' := [(0, .ref (gad a0)), (3, .int (gI a3)), (4, .int (gI a4)), (5, .int (gI a5))]) [0, 3, 4, 5] rfl ?_
          exact t79  80 M15 h
        · have h := h.2 b20
          refine q_bipush C (by decide) dX7_show_72 ?_
          refine q_goto (tgt := 79) C (by decide) dX7_show_74 ?_
          refine q_lv (lv' := [(0, .ref (gad a0)), (3, .int (gI a3)), (4, .int (gI a4)), (5, .int (gI a5))]) [0, 3, 4, 5] rfl ?_
          exact t79  82 M15 h
      · have h := h.2 b19
        refine q_bipush C (by decide) dX7_show_62 ?_
        refine q_goto (tgt := 79) C (by decide) dX7_show_64 ?_
        refine q_lv (lv' := [(0, .ref (gad a0)), (3, .int (gI a3)), (4, .int (gI a4)), (5, .int (gI a5))]) [0, 3, 4, 5] rfl ?_
        exact t79  81 M15 h
    · have h := h.2 b8
      refine q_iconst C dX7_show_33 ?_
      exact hret (-1) M5 _ _ dX7_show_34 (show rng (-1) by decide) h
set_option maxHeartbeats 4000000 in
set_option maxRecDepth 100000 in
theorem mX7_thrown (l : Launch) (D : va_G) (cy : Nat → ClassId) (kd : gKd) (ln : gLn) (rh : gRh) (post : Int → gM → Prop) (a0 : Int) (M : gM) (hk0 : kd a0 = 7) (h : wX7_thrown kd ln post a0 M) : gMI l D cy yX7_thrown cX7_thrown 1 .int 0 0 [.ref (gad a0)] kd ln rh M post := by
  refine gMI_of (own := RX7) (by decide) rfl (Nat.le_of_ble_eq_true rfl) ?_
  intro p e s m args below meth c A H0 Q C hret
  unfold wX7_thrown at h
  refine q_aload_n C 0 rfl rfl dX7_thrown_0 ?_
  refine q_get (v := .int (gI (M a0 0 (-1)))) C fX7_81 hk0 rfl dX7_thrown_1 (fun g1 => ?_)
  have h := h g1
  exact hret (M a0 0 (-1)) M _ _ dX7_thrown_4 g1 h
