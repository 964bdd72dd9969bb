set_option maxHeartbeats 4000000 in
set_option maxRecDepth 100000 in
theorem mX6_addToLine (l : Launch) (D : va_G) (cy : Nat → ClassId) (kd : gKd) (ln : gLn) (rh : gRh) (post : gM → Prop) (a0 : Int) (a1 : Int) (M : gM) (hk0 : kd a0 = 6) (hk1 : kd a1 = 4) (h : wX6_addToLine kd ln post a0 a1 M) : gMV l D cy yX6_addToLine cX6_addToLine 3 0 0 [.ref (gad a0), .ref (gad a1)] kd ln rh M post := by
  refine gMV_of (own := RX6) (by decide) rfl (Nat.le_of_ble_eq_true rfl) ?_
  intro p e s m args below meth c A H0 Q C hret
  unfold wX6_addToLine at h
  refine q_aload_n C 0 rfl rfl dX6_addToLine_0 ?_
  refine q_get (v := .int (gI (M a0 8 (-1)))) C fX6_56 hk0 rfl dX6_addToLine_1 (fun g1 => ?_)
  have h := h g1
  refine q_iconst C dX6_addToLine_4 ?_
  refine q_imul C dX6_addToLine_5 ?_
  refine q_topi (fun v2 ev2 => ?_)
  have h := h v2 ev2
  refine q_istore_n (lv' := [(2, .int (gI v2)), (0, .ref (gad a0)), (1, .ref (gad a1))]) C rfl (by decide) rfl dX6_addToLine_6 ?_
  refine q_iload_n C 0 rfl rfl dX6_addToLine_7 ?_
  refine q_iconst C dX6_addToLine_8 ?_
  refine q_iadd C dX6_addToLine_9 ?_
  refine q_aload_n C 1 rfl rfl dX6_addToLine_10 ?_
  obtain ⟨r3, h⟩ := h
  refine q_get (v := .ref (rh a0 7)) C fX6_39 hk0 (if_neg (Int.not_lt.mpr r3)) dX6_addToLine_11 (fun g4 => ?_)
  refine q_alen (t0 := 0) C hk0 rfl r3 dX6_addToLine_14 (fun g5 => ?_)
  have h := h g5
  have g6 : rng (ln a0 7) := ⟨by omega, by omega⟩
  obtain ⟨r7, h⟩ := h
  refine q_icmp_le (tgt := 19) C r7 g6 (by decide) dX6_addToLine_15 (fun b8 => ?_) (fun b8 => ?_)
  · have h := h.1 b8
    refine q_aload_n C 1 rfl rfl dX6_addToLine_19 ?_
    refine q_get (v := .ref (rh a0 7)) C fX6_39 hk0 (if_neg (Int.not_lt.mpr r3)) dX6_addToLine_20 (fun g9 => ?_)
    refine q_iload_n C 0 rfl rfl dX6_addToLine_23 ?_
    refine q_aload_n C 2 rfl rfl dX6_addToLine_24 ?_
    refine q_get (v := .int (gI (M a1 0 (-1)))) C fX6_223 hk1 rfl dX6_addToLine_25 (fun g10 => ?_)
    have h := h g10
    obtain ⟨r11, h⟩ := h
    refine q_iast C hk0 rfl g10 r11 dX6_addToLine_28 ?_
    refine q_aload_n C 1 rfl rfl dX6_addToLine_29 ?_
    refine q_get (v := .ref (rh a0 7)) C fX6_39 hk0 (if_neg (Int.not_lt.mpr r3)) dX6_addToLine_30 (fun g12 => ?_)
    refine q_iload_n C 0 rfl rfl dX6_addToLine_33 ?_
    refine q_iconst C dX6_addToLine_34 ?_
    refine q_iadd C dX6_addToLine_35 ?_
    refine q_aload_n C 2 rfl rfl dX6_addToLine_36 ?_
    refine q_get (v := .int (gI ((gu M a0 7 v2 (M a1 0 (-1))) a1 1 (-1)))) C fX6_211 hk1 rfl dX6_addToLine_37 (fun g13 => ?_)
    have h := h g13
    obtain ⟨r14, h⟩ := h
    refine q_iast C hk0 rfl g13 r14 dX6_addToLine_40 ?_
    refine q_aload_n C 1 rfl rfl dX6_addToLine_41 ?_
    refine q_get (v := .ref (rh a0 7)) C fX6_39 hk0 (if_neg (Int.not_lt.mpr r3)) dX6_addToLine_42 (fun g15 => ?_)
    refine q_iload_n C 0 rfl rfl dX6_addToLine_45 ?_
    refine q_iconst C dX6_addToLine_46 ?_
    refine q_iadd C dX6_addToLine_47 ?_
    refine q_aload_n C 2 rfl rfl dX6_addToLine_48 ?_
    refine q_get (v := .int (gI ((gu (gu M a0 7 v2 (M a1 0 (-1))) a0 7 (v2 + 1) ((gu M a0 7 v2 (M a1 0 (-1))) a1 1 (-1))) a1 2 (-1)))) C fX6_226 hk1 rfl dX6_addToLine_49 (fun g16 => ?_)
    have h := h g16
    obtain ⟨r17, h⟩ := h
    refine q_iast C hk0 rfl g16 r17 dX6_addToLine_52 ?_
    refine q_aload_n C 1 rfl rfl dX6_addToLine_53 ?_
    refine q_get (v := .ref (rh a0 7)) C fX6_39 hk0 (if_neg (Int.not_lt.mpr r3)) dX6_addToLine_54 (fun g18 => ?_)
    refine q_iload_n C 0 rfl rfl dX6_addToLine_57 ?_
    refine q_iconst C dX6_addToLine_58 ?_
    refine q_iadd C dX6_addToLine_59 ?_
    refine q_aload_n C 2 rfl rfl dX6_addToLine_60 ?_
    refine q_get (v := .int (gI ((gu (gu (gu M a0 7 v2 (M a1 0 (-1))) a0 7 (v2 + 1) ((gu M a0 7 v2 (M a1 0 (-1))) a1 1 (-1))) a0 7 (v2 + 2) ((gu (gu M a0 7 v2 (M a1 0 (-1))) a0 7 (v2 + 1) ((gu M a0 7 v2 (M a1 0 (-1))) a1 1 (-1))) a1 2 (-1))) a1 3 (-1)))) C fX6_214 hk1 rfl dX6_addToLine_61 (fun g19 => ?_)
    have h := h g19
    obtain ⟨r20, h⟩ := h
    refine q_iast C hk0 rfl g19 r20 dX6_addToLine_64 ?_
    refine q_aload_n C 1 rfl rfl dX6_addToLine_65 ?_
    refine q_get (v := .ref (rh a0 7)) C fX6_39 hk0 (if_neg (Int.not_lt.mpr r3)) dX6_addToLine_66 (fun g21 => ?_)
    refine q_iload_n C 0 rfl rfl dX6_addToLine_69 ?_
    refine q_iconst C dX6_addToLine_70 ?_
    refine q_iadd C dX6_addToLine_71 ?_
    refine q_aload_n C 2 rfl rfl dX6_addToLine_72 ?_
    refine q_get (v := .int (gI ((gu (gu (gu (gu M a0 7 v2 (M a1 0 (-1))) a0 7 (v2 + 1) ((gu M a0 7 v2 (M a1 0 (-1))) a1 1 (-1))) a0 7 (v2 + 2) ((gu (gu M a0 7 v2 (M a1 0 (-1))) a0 7 (v2 + 1) ((gu M a0 7 v2 (M a1 0 (-1))) a1 1 (-1))) a1 2 (-1))) a0 7 (v2 + 3) ((gu (gu (gu M a0 7 v2 (M a1 0 (-1))) a0 7 (v2 + 1) ((gu M a0 7 v2 (M a1 0 (-1))) a1 1 (-1))) a0 7 (v2 + 2) ((gu (gu M a0 7 v2 (M a1 0 (-1))) a0 7 (v2 + 1) ((gu M a0 7 v2 (M a1 0 (-1))) a1 1 (-1))) a1 2 (-1))) a1 3 (-1))) a1 4 (-1)))) C fX6_205 hk1 rfl dX6_addToLine_73 (fun g22 => ?_)
    have h := h g22
    obtain ⟨r23, h⟩ := h
    refine q_iast C hk0 rfl g22 r23 dX6_addToLine_76 ?_
    refine q_aload_n C 1 rfl rfl dX6_addToLine_77 ?_
    refine q_dup C rfl dX6_addToLine_78 ?_
    refine q_get (v := .int (gI ((gu (gu (gu (gu (gu M a0 7 v2 (M a1 0 (-1))) a0 7 (v2 + 1) ((gu M a0 7 v2 (M a1 0 (-1))) a1 1 (-1))) a0 7 (v2 + 2) ((gu (gu M a0 7 v2 (M a1 0 (-1))) a0 7 (v2 + 1) ((gu M a0 7 v2 (M a1 0 (-1))) a1 1 (-1))) a1 2 (-1))) a0 7 (v2 + 3) ((gu (gu (gu M a0 7 v2 (M a1 0 (-1))) a0 7 (v2 + 1) ((gu M a0 7 v2 (M a1 0 (-1))) a1 1 (-1))) a0 7 (v2 + 2) ((gu (gu M a0 7 v2 (M a1 0 (-1))) a0 7 (v2 + 1) ((gu M a0 7 v2 (M a1 0 (-1))) a1 1 (-1))) a1 2 (-1))) a1 3 (-1))) a0 7 (v2 + 4) ((gu (gu (gu (gu M a0 7 v2 (M a1 0 (-1))) a0 7 (v2 + 1) ((gu M a0 7 v2 (M a1 0 (-1))) a1 1 (-1))) a0 7 (v2 + 2) ((gu (gu M a0 7 v2 (M a1 0 (-1))) a0 7 (v2 + 1) ((gu M a0 7 v2 (M a1 0 (-1))) a1 1 (-1))) a1 2 (-1))) a0 7 (v2 + 3) ((gu (gu (gu M a0 7 v2 (M a1 0 (-1))) a0 7 (v2 + 1) ((gu M a0 7 v2 (M a1 0 (-1))) a1 1 (-1))) a0 7 (v2 + 2) ((gu (gu M a0 7 v2 (M a1 0 (-1))) a0 7 (v2 + 1) ((gu M a0 7 v2 (M a1 0 (-1))) a1 1 (-1))) a1 2 (-1))) a1 3 (-1))) a1 4 (-1))) a0 8 (-1)))) C fX6_56 hk0 rfl dX6_addToLine_79 (fun g24 => ?_)
    have h := h g24
    refine q_iconst C dX6_addToLine_82 ?_
    refine q_iadd C dX6_addToLine_83 ?_
    obtain ⟨r25, h⟩ := h
    refine q_put (x := (((gu (gu (gu (gu (gu M a0 7 v2 (M a1 0 (-1))) a0 7 (v2 + 1) ((gu M a0 7 v2 (M a1 0 (-1))) a1 1 (-1))) a0 7 (v2 + 2) ((gu (gu M a0 7 v2 (M a1 0 (-1))) a0 7 (v2 + 1) ((gu M a0 7 v2 (M a1 0 (-1))) a1 1 (-1))) a1 2 (-1))) a0 7 (v2 + 3) ((gu (gu (gu M a0 7 v2 (M a1 0 (-1))) a0 7 (v2 + 1) ((gu M a0 7 v2 (M a1 0 (-1))) a1 1 (-1))) a0 7 (v2 + 2) ((gu (gu M a0 7 v2 (M a1 0 (-1))) a0 7 (v2 + 1) ((gu M a0 7 v2 (M a1 0 (-1))) a1 1 (-1))) a1 2 (-1))) a1 3 (-1))) a0 7 (v2 + 4) ((gu (gu (gu (gu M a0 7 v2 (M a1 0 (-1))) a0 7 (v2 + 1) ((gu M a0 7 v2 (M a1 0 (-1))) a1 1 (-1))) a0 7 (v2 + 2) ((gu (gu M a0 7 v2 (M a1 0 (-1))) a0 7 (v2 + 1) ((gu M a0 7 v2 (M a1 0 (-1))) a1 1 (-1))) a1 2 (-1))) a0 7 (v2 + 3) ((gu (gu (gu M a0 7 v2 (M a1 0 (-1))) a0 7 (v2 + 1) ((gu M a0 7 v2 (M a1 0 (-1))) a1 1 (-1))) a0 7 (v2 + 2) ((gu (gu M a0 7 v2 (M a1 0 (-1))) a0 7 (v2 + 1) ((gu M a0 7 v2 (M a1 0 (-1))) a1 1 (-1))) a1 2 (-1))) a1 3 (-1))) a1 4 (-1))) a0 8 (-1)) + 1)) (ty := .int) C fX6_56 hk0 (fun _ _ _ q => by cases q; rfl) (congrArg (fun z => Value.int (gI z)) gu_s) rfl rfl r25 (fun j q => absurd (show (0 : Nat) = j + 3 from q) (by omega)) dX6_addToLine_84 ?_
    exact hret (gu (gu (gu (gu (gu (gu M a0 7 v2 (M a1 0 (-1))) a0 7 (v2 + 1) ((gu M a0 7 v2 (M a1 0 (-1))) a1 1 (-1))) a0 7 (v2 + 2) ((gu (gu M a0 7 v2 (M a1 0 (-1))) a0 7 (v2 + 1) ((gu M a0 7 v2 (M a1 0 (-1))) a1 1 (-1))) a1 2 (-1))) a0 7 (v2 + 3) ((gu (gu (gu M a0 7 v2 (M a1 0 (-1))) a0 7 (v2 + 1) ((gu M a0 7 v2 (M a1 0 (-1))) a1 1 (-1))) a0 7 (v2 + 2) ((gu (gu M a0 7 v2 (M a1 0 (-1))) a0 7 (v2 + 1) ((gu M a0 7 v2 (M a1 0 (-1))) a1 1 (-1))) a1 2 (-1))) a1 3 (-1))) a0 7 (v2 + 4) ((gu (gu (gu (gu M a0 7 v2 (M a1 0 (-1))) a0 7 (v2 + 1) ((gu M a0 7 v2 (M a1 0 (-1))) a1 1 (-1))) a0 7 (v2 + 2) ((gu (gu M a0 7 v2 (M a1 0 (-1))) a0 7 (v2 + 1) ((gu M a0 7 v2 (M a1 0 (-1))) a1 1 (-1))) a1 2 (-1))) a0 7 (v2 + 3) ((gu (gu (gu M a0 7 v2 (M a1 0 (-1))) a0 7 (v2 + 1) ((gu M a0 7 v2 (M a1 0 (-1))) a1 1 (-1))) a0 7 (v2 + 2) ((gu (gu M a0 7 v2 (M a1 0 (-1))) a0 7 (v2 + 1) ((gu M a0 7 v2 (M a1 0 (-1))) a1 1 (-1))) a1 2 (-1))) a1 3 (-1))) a1 4 (-1))) a0 8 (-1) (((gu (gu (gu (gu (gu M a0 7 v2 (M a1 0 (-1))) a0 7 (v2 + 1) ((gu M a0 7 v2 (M a1 0 (-1))) a1 1 (-1))) a0 7 (v2 + 2) ((gu (gu M a0 7 v2 (M a1 0 (-1))) a0 7 (v2 + 1) ((gu M a0 7 v2 (M a1 0 (-1))) a1 1 (-1))) a1 2 (-1))) a0 7 (v2 + 3) ((gu (gu (gu M a0 7 v2 (M a1 0 (-1))) a0 7 (v2 + 1) ((gu M a0 7 v2 (M a1 0 (-1))) a1 1 (-1))) a0 7 (v2 + 2) ((gu (gu M a0 7 v2 (M a1 0 (-1))) a0 7 (v2 + 1) ((gu M a0 7 v2 (M a1 0 (-1))) a1 1 (-1))) a1 2 (-1))) a1 3 (-1))) a0 7 (v2 + 4) ((gu (gu (gu (gu M a0 7 v2 (M a1 0 (-1))) a0 7 (v2 + 1) ((gu M a0 7 v2 (M a1 0 (-1))) a1 1 (-1))) a0 7 (v2 + 2) ((gu (gu M a0 7 v2 (M a1 0 (-1))) a0 7 (v2 + 1) ((gu M a0 7 v2 (M a1 0 (-1))) a1 1 (-1))) a1 2 (-1))) a0 7 (v2 + 3) ((gu (gu (gu M a0 7 v2 (M a1 0 (-1))) a0 7 (v2 + 1) ((gu M a0 7 v2 (M a1 0 (-1))) a1 1 (-1))) a0 7 (v2 + 2) ((gu (gu M a0 7 v2 (M a1 0 (-1))) a0 7 (v2 + 1) ((gu M a0 7 v2 (M a1 0 (-1))) a1 1 (-1))) a1 2 (-1))) a1 3 (-1))) a1 4 (-1))) a0 8 (-1)) + 1)) _ _ dX6_addToLine_87 h
  · have h := h.2 b8
    exact hret M _ _ dX6_addToLine_18 h
set_option maxHeartbeats 4000000 in
set_option maxRecDepth 100000 in
theorem mX4_play (l : Launch) (D : va_G) (cy : Nat → ClassId) (kd : gKd) (ln : gLn) (rh : gRh) (post : gM → Prop) (a0 : Int) (a1 : Int) (M : gM) (hk0 : kd a0 = 4) (hk1 : kd a1 = 1) (h : wX4_play kd ln post a0 a1 M) : gMV l D cy yX4_play cX4_play 4 1 22 [.ref (gad a0), .ref (gad a1)] kd ln rh M post := by
  refine gMV_of (own := RX4) (by decide) rfl (Nat.le_of_ble_eq_true rfl) ?_
  intro p e s m args below meth c A H0 Q C hret
  have t73 : ∀ (M : gM), wX4_play_73 kd ln post a0 a1  M → gW p l e (gRm 1 22) s m args below meth c D cy A H0 Q 4 kd ln rh 0 0 M 73 [(0, .ref (gad a0))] [] := by
    intro   M h
    unfold wX4_play_73 at h
    refine q_aload_n C 0 rfl rfl dX4_play_73 ?_
    refine q_iconst C dX4_play_74 ?_
    refine q_aload_n C 0 rfl rfl dX4_play_75 ?_
    refine q_get (v := .int (gI (M a0 4 (-1)))) C fX4_24 hk0 rfl dX4_play_76 (fun g16 => ?_)
    have h := h g16
    refine q_isub C dX4_play_79 ?_
    obtain ⟨r17, h⟩ := h
    refine q_put (x := (1 - (M a0 4 (-1)))) (ty := .int) C fX4_24 hk0 (fun _ _ _ q => by cases q; rfl) (congrArg (fun z => Value.int (gI z)) gu_s) rfl rfl r17 (fun j q => absurd (show (0 : Nat) = j + 3 from q) (by omega)) dX4_play_80 ?_
    exact hret (gu M a0 4 (-1) (1 - (M a0 4 (-1)))) _ _ dX4_play_83 h
  have t70 : ∀ (y0 : Int) (M : gM), wX4_play_70 kd ln post a0 a1 y0 M → gW p l e (gRm 1 22) s m args below meth c D cy A H0 Q 4 kd ln rh 0 0 M 70 [(0, .ref (gad a0))] [.int (gI y0), .ref (gad a0)] := by
    intro  y0 M h
    unfold wX4_play_70 at h
    obtain ⟨r18, h⟩ := h
    refine q_put (x := y0) (ty := .int) C fX4_9 hk0 (fun _ _ _ q => by cases q; rfl) (congrArg (fun z => Value.int (gI z)) gu_s) rfl rfl r18 (fun j q => absurd (show (0 : Nat) = j + 3 from q) (by omega)) dX4_play_70 ?_
    exact t73  (gu M a0 0 (-1) y0) h
  unfold wX4_play at h
  refine q_aload_n C 1 rfl rfl dX4_play_0 ?_
  refine q_iconst C dX4_play_1 ?_
  refine q_iconst C dX4_play_2 ?_
  refine q_callVI (As := [.int (gI 0), .int (gI 1)]) (st := []) C vX4_29 kX1_tell ⟨Nat.le_of_ble_eq_true rfl, Nat.le_of_ble_eq_true rfl⟩ ⟨Nat.le_of_ble_eq_true rfl, Nat.le_of_ble_eq_true rfl⟩ rfl hk1 ⟨_, _, rfl⟩ (by decide) rfl (Nat.le_of_ble_eq_true rfl) (mX1_tell l D cy kd ln rh _ a1 0 1 M hk1 h) dX4_play_3 (fun c2 M1 g3 h => ?_)
  have h := h g3
  refine q_istore_n (lv' := [(2, .int (gI c2)), (0, .ref (gad a0)), (1, .ref (gad a1))]) C rfl (by decide) rfl dX4_play_6 ?_
  refine q_aload_n C 2 rfl rfl dX4_play_7 ?_
  refine q_iconst C dX4_play_8 ?_
  refine q_iconst C dX4_play_9 ?_
  refine q_callVI (As := [.int (gI 0), .int (gI 2)]) (st := []) C vX4_29 kX1_tell ⟨Nat.le_of_ble_eq_true rfl, Nat.le_of_ble_eq_true rfl⟩ ⟨Nat.le_of_ble_eq_true rfl, Nat.le_of_ble_eq_true rfl⟩ rfl hk1 ⟨_, _, rfl⟩ (by decide) rfl (Nat.le_of_ble_eq_true rfl) (mX1_tell l D cy kd ln rh _ a1 0 2 M1 hk1 h) dX4_play_10 (fun c5 M4 g6 h => ?_)
  have h := h g6
  refine q_istore_n (lv' := [(3, .int (gI c5)), (2, .int (gI c2)), (0, .ref (gad a0)), (1, .ref (gad a1))]) C rfl (by decide) rfl dX4_play_13 ?_
  refine q_aload_n C 2 rfl rfl dX4_play_14 ?_
  refine q_get (v := .int (gI (M4 a0 4 (-1)))) C fX4_24 hk0 rfl dX4_play_15 (fun g7 => ?_)
  have h := h g7
  refine q_iconst C dX4_play_18 ?_
  refine q_icmp_ne (tgt := 30) C g7 (show rng 1 by decide) (by decide) dX4_play_19 (fun b8 => ?_) (fun b8 => ?_)
  · have h := h.1 b8
    refine q_aload_n C 3 rfl rfl dX4_play_30 ?_
    refine q_iconst C dX4_play_31 ?_
    refine q_iconst C dX4_play_32 ?_
    refine q_callVI (As := [.int (gI 0), .int (gI 0)]) (st := []) C vX4_29 kX1_tell ⟨Nat.le_of_ble_eq_true rfl, Nat.le_of_ble_eq_true rfl⟩ ⟨Nat.le_of_ble_eq_true rfl, Nat.le_of_ble_eq_true rfl⟩ rfl hk1 ⟨_, _, rfl⟩ (by decide) rfl (Nat.le_of_ble_eq_true rfl) (mX1_tell l D cy kd ln rh _ a1 0 0 M4 hk1 h) dX4_play_33 (fun c10 M9 g11 h => ?_)
    have h := h g11
    refine q_aload_n C 2 rfl rfl dX4_play_36 ?_
    refine q_get (v := .int (gI (M9 a0 1 (-1)))) C fX4_15 hk0 rfl dX4_play_37 (fun g12 => ?_)
    have h := h g12
    refine q_icmp_ne (tgt := 51) C g11 g12 (by decide) dX4_play_40 (fun b13 => ?_) (fun b13 => ?_)
    · have h := h.1 b13
      refine q_aload_n C 2 rfl rfl dX4_play_51 ?_
      refine q_iload_n C 1 rfl rfl dX4_play_52 ?_
      refine q_put (x := c2) (ty := .int) C fX4_21 hk0 (fun _ _ _ q => by cases q; rfl) (congrArg (fun z => Value.int (gI z)) gu_s) rfl rfl g3 (fun j q => absurd (show (0 : Nat) = j + 3 from q) (by omega)) dX4_play_53 ?_
      refine q_aload_n C 2 rfl rfl dX4_play_56 ?_
      refine q_iload_n C 0 rfl rfl dX4_play_57 ?_
      refine q_iconst C dX4_play_58 ?_
      refine q_icmp_ne (tgt := 69) C g6 (show rng (-1) by decide) (by decide) dX4_play_59 (fun b14 => ?_) (fun b14 => ?_)
      · have h := h.1 b14
        refine q_iload_n C 0 rfl rfl dX4_play_69 ?_
        refine q_lv (lv' := [(0, .ref (gad a0))]) [2] rfl ?_
        exact t70  c5 (gu M9 a0 3 (-1) c2) h
      · have h := h.2 b14
        refine q_aload_n C 2 rfl rfl dX4_play_62 ?_
        refine q_get (v := .int (gI ((gu M9 a0 3 (-1) c2) a0 0 (-1)))) C fX4_9 hk0 rfl dX4_play_63 (fun g15 => ?_)
        have h := h g15
        refine q_goto (tgt := 70) C (by decide) dX4_play_66 ?_
        refine q_lv (lv' := [(0, .ref (gad a0))]) [2] rfl ?_
        exact t70  ((gu M9 a0 3 (-1) c2) a0 0 (-1)) (gu M9 a0 3 (-1) c2) h
    · have h := h.2 b13
      refine q_aload_n C 2 rfl rfl dX4_play_43 ?_
      refine q_iload_n C 1 rfl rfl dX4_play_44 ?_
      refine q_put (x := c2) (ty := .int) C fX4_15 hk0 (fun _ _ _ q => by cases q; rfl) (congrArg (fun z => Value.int (gI z)) gu_s) rfl rfl g3 (fun j q => absurd (show (0 : Nat) = j + 3 from q) (by omega)) dX4_play_45 ?_
      refine q_goto (tgt := 73) C (by decide) dX4_play_48 ?_
      refine q_lv (lv' := [(0, .ref (gad a0))]) [2] rfl ?_
      exact t73  (gu M9 a0 1 (-1) c2) h
  · have h := h.2 b8
    refine q_aload_n C 2 rfl rfl dX4_play_22 ?_
    refine q_iload_n C 1 rfl rfl dX4_play_23 ?_
    refine q_put (x := c2) (ty := .int) C fX4_18 hk0 (fun _ _ _ q => by cases q; rfl) (congrArg (fun z => Value.int (gI z)) gu_s) rfl rfl g3 (fun j q => absurd (show (0 : Nat) = j + 3 from q) (by omega)) dX4_play_24 ?_
    refine q_goto (tgt := 73) C (by decide) dX4_play_27 ?_
    refine q_lv (lv' := [(0, .ref (gad a0))]) [2] rfl ?_
    exact t73  (gu M4 a0 2 (-1) c2) h
set_option maxHeartbeats 4000000 in
set_option maxRecDepth 100000 in
theorem mX6_line (l : Launch) (D : va_G) (cy : Nat → ClassId) (kd : gKd) (ln : gLn) (rh : gRh) (post : Int → gM → Prop) (px : gM → Prop) (a0 : Int) (a1 : Int) (a2 : Int) (a3 : Int) (a4 : Int) (a5 : Int) (M : gM) (hst : l.stackTraces = false) (hk0 : kd a0 = 6) (h : wX6_line kd ln post px a0 a1 a2 a3 a4 a5 M) : gTI l D cy yX6_line cX6_line 8 .int 8 174 [.ref (gad a0), .int (gI a1), .int (gI a2), .int (gI a3), .int (gI a4), .int (gI a5)] kd ln rh M post px := by
  refine gTI_of (own := RX6) (by decide) rfl (Nat.le_of_ble_eq_true rfl) hst rfl ?_
  intro p e s m args below meth c A H0 Q C hret hthr hexc
  have t120 : ∀ (M : gM), wX6_line_120 kd ln post px a0 a1 a2 a3 a4 a5  M → gW p l e (gRt 8 174) s m args below meth c D cy A H0 Q 8 kd ln rh 1 6 M 120 [(0, .ref (gad a0))] [] := by
    intro   M h
    unfold wX6_line_120 at h
    refine q_aload_n C 0 rfl rfl dX6_line_120 ?_
    refine q_get (v := .int (gI (M a0 8 (-1)))) C fX6_56 hk0 rfl dX6_line_121 (fun g50 => ?_)
    have h := h g50
    refine q_iconst C dX6_line_124 ?_
    refine q_isub C dX6_line_125 ?_
    obtain ⟨r51, h⟩ := h
    exact hret ((M a0 8 (-1)) - 1) M _ _ 1 6 (by decide) (by decide) dX6_line_126 r51 h
  have t53 : ∀ (n : Nat) (x7 : Int) (M : gM), wX6_line_53 kd ln post px a0 a1 a2 a3 a4 a5 n x7 M → gW p l e (gRt 8 174) s m args below meth c D cy A H0 Q 8 kd ln rh 1 6 M 53 [(0, .ref (gad a0)), (7, .int (gI x7))] [] := by
    intro n
    induction n with
    | zero => intro x7 M h; exact absurd h (by simp [wX6_line_53])
    | succ n ih =>
      intro x7 M h
      have hk53_ := ih
      rw [wX6_line_53] at h
      refine q_iload C 1 rfl dX6_line_53 ?_
      obtain ⟨r18, h⟩ := h
      refine q_if_le (tgt := 120) C r18 (by decide) dX6_line_55 (fun b19 => ?_) (fun b19 => ?_)
      · have h := h.1 b19
        refine q_lv (lv' := [(0, .ref (gad a0))]) [0] rfl ?_
        exact t120  M h
      · have h := h.2 b19
        refine q_aload_n C 0 rfl rfl dX6_line_58 ?_
        refine q_aload_n C 0 rfl rfl dX6_line_59 ?_
        refine q_get (v := gR (M a0 5 (-1))) C fX6_33 hk0 rfl dX6_line_60 (fun g20 => ?_)
        obtain ⟨r21, h⟩ := h
        refine q_nn r21 (by decide) ?_
        refine q_aload_n C 0 rfl rfl dX6_line_63 ?_
        refine q_get (v := gR (M a0 6 (-1))) C fX6_36 hk0 rfl dX6_line_64 (fun g22 => ?_)
        obtain ⟨r23, h⟩ := h
        refine q_nn r23 (by decide) ?_
        refine q_callVV (As := [.ref (gad (M a0 5 (-1))), .ref (gad (M a0 6 (-1)))]) (st := []) C vX6_110 kX6_gather ⟨Nat.le_of_ble_eq_true rfl, Nat.le_of_ble_eq_true rfl⟩ ⟨Nat.le_of_ble_eq_true rfl, Nat.le_of_ble_eq_true rfl⟩ rfl hk0 ⟨_, _, rfl⟩ (by decide) rfl (Nat.le_of_ble_eq_true rfl) (mX6_gather l D cy kd ln rh _ a0 (M a0 5 (-1)) (M a0 6 (-1)) M hk0 r21 r23 h) dX6_line_67 (fun M24 h => ?_)
        refine q_aload_n C 0 rfl rfl dX6_line_70 ?_
        refine q_get (v := gR (M24 a0 5 (-1))) C fX6_33 hk0 rfl dX6_line_71 (fun g27 => ?_)
        obtain ⟨r28, h⟩ := h
        refine q_nn r28 (by decide) ?_
        refine q_iload C 1 rfl dX6_line_74 ?_
        refine q_callSI (As := [.int (gI x7)]) (st := [.ref (gad (M24 a0 5 (-1)))]) C vX6_114 kX6_goalAfter ⟨Nat.le_of_ble_eq_true rfl, Nat.le_of_ble_eq_true rfl⟩ ⟨Nat.le_of_ble_eq_true rfl, Nat.le_of_ble_eq_true rfl⟩ rfl rfl (Nat.le_of_ble_eq_true rfl) (mX6_goalAfter l D cy kd ln rh _ x7 M24  h) dX6_line_76 (fun c30 M29 g31 h => ?_)
        have h := h g31
        refine q_callVV (As := [.int (gI c30)]) (st := []) C vX6_118 kX1_keep ⟨Nat.le_of_ble_eq_true rfl, Nat.le_of_ble_eq_true rfl⟩ ⟨Nat.le_of_ble_eq_true rfl, Nat.le_of_ble_eq_true rfl⟩ rfl r28 ⟨_, _, rfl⟩ (by decide) rfl (Nat.le_of_ble_eq_true rfl) (mX1_keep l D cy kd ln rh _ (M24 a0 5 (-1)) c30 M29 r28 h) dX6_line_79 (fun M32 h => ?_)
        refine q_aload_n C 0 rfl rfl dX6_line_82 ?_
        refine q_get (v := gR (M32 a0 5 (-1))) C fX6_33 hk0 rfl dX6_line_83 (fun g35 => ?_)
        obtain ⟨r36, h⟩ := h
        refine q_nn r36 (by decide) ?_
        refine q_get (v := .int (gI (M32 (M32 a0 5 (-1)) 0 (-1)))) C fX6_121 r36 rfl dX6_line_86 (fun g37 => ?_)
        have h := h g37
        refine q_if_ne (tgt := 95) C g37 (by decide) dX6_line_89 (fun b38 => ?_) (fun b38 => ?_)
        · have h := h.1 b38
          refine q_aload_n C 0 rfl rfl dX6_line_95 ?_
          refine q_get (v := gR (M32 a0 6 (-1))) C fX6_36 hk0 rfl dX6_line_96 (fun g39 => ?_)
          obtain ⟨r40, h⟩ := h
          refine q_nn r40 (by decide) ?_
          refine q_aload_n C 0 rfl rfl dX6_line_99 ?_
          refine q_get (v := gR (M32 a0 5 (-1))) C fX6_33 hk0 rfl dX6_line_100 (fun g41 => ?_)
          refine q_nn r36 (by decide) ?_
          refine q_callVV (As := [.ref (gad (M32 a0 5 (-1)))]) (st := []) C vX6_131 kX4_play ⟨Nat.le_of_ble_eq_true rfl, Nat.le_of_ble_eq_true rfl⟩ ⟨Nat.le_of_ble_eq_true rfl, Nat.le_of_ble_eq_true rfl⟩ rfl r40 ⟨_, _, rfl⟩ (by decide) rfl (Nat.le_of_ble_eq_true rfl) (mX4_play l D cy kd ln rh _ (M32 a0 6 (-1)) (M32 a0 5 (-1)) M32 r40 r36 h) dX6_line_103 (fun M42 h => ?_)
          refine q_aload_n C 0 rfl rfl dX6_line_106 ?_
          refine q_aload_n C 0 rfl rfl dX6_line_107 ?_
          refine q_get (v := gR (M42 a0 6 (-1))) C fX6_36 hk0 rfl dX6_line_108 (fun g45 => ?_)
          obtain ⟨r46, h⟩ := h
          refine q_nn r46 (by decide) ?_
          refine q_callVV (As := [.ref (gad (M42 a0 6 (-1)))]) (st := []) C vX6_127 kX6_addToLine ⟨Nat.le_of_ble_eq_true rfl, Nat.le_of_ble_eq_true rfl⟩ ⟨Nat.le_of_ble_eq_true rfl, Nat.le_of_ble_eq_true rfl⟩ rfl hk0 ⟨_, _, rfl⟩ (by decide) rfl (Nat.le_of_ble_eq_true rfl) (mX6_addToLine l D cy kd ln rh _ a0 (M42 a0 6 (-1)) M42 hk0 r46 h) dX6_line_111 (fun M47 h => ?_)
          refine q_iinc (lv' := [(7, .int (gI (x7 + (-1)))), (0, .ref (gad a0))]) C 1 rfl (by decide) rfl dX6_line_114 ?_
          refine q_goto (tgt := 53) C (by decide) dX6_line_117 ?_
          refine q_lv (lv' := [(0, .ref (gad a0)), (7, .int (gI (x7 + (-1))))]) [1, 0] rfl ?_
          exact hk53_ (x7 + (-1)) M47 h
        · have h := h.2 b38
          refine q_goto (tgt := 120) C (by decide) dX6_line_92 ?_
          refine q_lv (lv' := [(0, .ref (gad a0))]) [0] rfl ?_
          exact t120  M32 h
  unfold wX6_line at h
  refine q_aload_n C 0 rfl rfl dX6_line_0 ?_
  refine q_iload_n C 1 rfl rfl dX6_line_1 ?_
  refine q_iload_n C 2 rfl rfl dX6_line_2 ?_
  refine q_iload_n C 3 rfl rfl dX6_line_3 ?_
  refine q_iload C 4 rfl dX6_line_4 ?_
  refine q_iload C 5 rfl dX6_line_6 ?_
  refine q_callTR (As := [.int (gI a1), .int (gI a2), .int (gI a3), .int (gI a4), .int (gI a5)]) (st := []) C vX6_98 kX6_demandTable ⟨Nat.le_of_ble_eq_true rfl, Nat.le_of_ble_eq_true rfl⟩ ⟨Nat.le_of_ble_eq_true rfl, Nat.le_of_ble_eq_true rfl⟩ rfl hk0 ⟨_, _, rfl⟩ (by decide) rfl (Nat.le_of_ble_eq_true rfl) (mX6_demandTable l D cy kd ln rh _ _ a0 a1 a2 a3 a4 a5 M hst hk0 h) dX6_line_8 (fun M9 h => hexc M9 _ _ _ _ _ (by decide) (by decide) h) (fun c2 M1 h => ?_)
  refine q_iload_n C 2 rfl rfl dX6_line_11 ?_
  refine q_iload_n C 3 rfl rfl dX6_line_12 ?_
  refine q_iload C 4 rfl dX6_line_13 ?_
  refine q_iload C 5 rfl dX6_line_15 ?_
  obtain ⟨r4, h⟩ := h
  refine q_callVI (As := [.int (gI a2), .int (gI a3), .int (gI a4), .int (gI a5)]) (st := []) C vX6_102 kX5_look ⟨Nat.le_of_ble_eq_true rfl, Nat.le_of_ble_eq_true rfl⟩ ⟨Nat.le_of_ble_eq_true rfl, Nat.le_of_ble_eq_true rfl⟩ rfl r4 ⟨_, _, rfl⟩ (by decide) rfl (Nat.le_of_ble_eq_true rfl) (mX5_look l D cy kd ln rh _ c2 a2 a3 a4 a5 M1 r4 h) dX6_line_17 (fun c6 M5 g7 h => ?_)
  have h := h g7
  refine q_istore (lv' := [(6, .int (gI c6)), (0, .ref (gad a0)), (1, .int (gI a1)), (2, .int (gI a2)), (3, .int (gI a3)), (4, .int (gI a4)), (5, .int (gI a5))]) C (by decide) rfl dX6_line_20 ?_
  refine q_aload_n C 1 rfl rfl dX6_line_22 ?_
  refine q_get (v := gR (M5 a0 6 (-1))) C fX6_36 hk0 rfl dX6_line_23 (fun g8 => ?_)
  obtain ⟨r9, h⟩ := h
  refine q_nn r9 (by decide) ?_
  refine q_iload_n C 2 rfl rfl dX6_line_26 ?_
  refine q_iload_n C 3 rfl rfl dX6_line_27 ?_
  refine q_iload_n C 4 rfl rfl dX6_line_28 ?_
  refine q_iload C 5 rfl dX6_line_29 ?_
  refine q_iload C 6 rfl dX6_line_31 ?_
  refine q_callVV (As := [.int (gI a1), .int (gI a2), .int (gI a3), .int (gI a4), .int (gI a5)]) (st := []) C vX6_106 kX4_set ⟨Nat.le_of_ble_eq_true rfl, Nat.le_of_ble_eq_true rfl⟩ ⟨Nat.le_of_ble_eq_true rfl, Nat.le_of_ble_eq_true rfl⟩ rfl r9 ⟨_, _, rfl⟩ (by decide) rfl (Nat.le_of_ble_eq_true rfl) (mX4_set l D cy kd ln rh _ (M5 a0 6 (-1)) a1 a2 a3 a4 a5 M5 r9 h) dX6_line_33 (fun M10 h => ?_)
  refine q_aload_n C 1 rfl rfl dX6_line_36 ?_
  refine q_iconst C dX6_line_37 ?_
  refine q_put (x := 0) (ty := .int) C fX6_56 hk0 (fun _ _ _ q => by cases q; rfl) (congrArg (fun z => Value.int (gI z)) gu_s) rfl rfl (show rng 0 by decide) (fun j q => absurd (show (0 : Nat) = j + 3 from q) (by omega)) dX6_line_38 ?_
  refine q_aload_n C 1 rfl rfl dX6_line_41 ?_
  refine q_aload_n C 1 rfl rfl dX6_line_42 ?_
  refine q_get (v := gR ((gu M10 a0 8 (-1) 0) a0 6 (-1))) C fX6_36 hk0 rfl dX6_line_43 (fun g13 => ?_)
  obtain ⟨r14, h⟩ := h
  refine q_nn r14 (by decide) ?_
  refine q_callVV (As := [.ref (gad ((gu M10 a0 8 (-1) 0) a0 6 (-1)))]) (st := []) C vX6_127 kX6_addToLine ⟨Nat.le_of_ble_eq_true rfl, Nat.le_of_ble_eq_true rfl⟩ ⟨Nat.le_of_ble_eq_true rfl, Nat.le_of_ble_eq_true rfl⟩ rfl hk0 ⟨_, _, rfl⟩ (by decide) rfl (Nat.le_of_ble_eq_true rfl) (mX6_addToLine l D cy kd ln rh _ a0 ((gu M10 a0 8 (-1) 0) a0 6 (-1)) (gu M10 a0 8 (-1) 0) hk0 r14 h) dX6_line_46 (fun M15 h => ?_)
  refine q_iload C 0 rfl dX6_line_49 ?_
  refine q_istore (lv' := [(7, .int (gI c6)), (6, .int (gI c6)), (0, .ref (gad a0)), (1, .int (gI a1)), (2, .int (gI a2)), (3, .int (gI a3)), (4, .int (gI a4)), (5, .int (gI a5))]) C (by decide) rfl dX6_line_51 ?_
  refine q_lv (lv' := [(0, .ref (gad a0)), (7, .int (gI c6))]) [2, 0] rfl ?_
  obtain ⟨j53, h⟩ := h
  exact t53  j53 c6 M15 h
set_option maxHeartbeats 4000000 in
set_option maxRecDepth 100000 in
theorem mX7_keep (l : Launch) (D : va_G) (cy : Nat → ClassId) (kd : gKd) (ln : gLn) (rh : gRh) (post : gM → Prop) (a0 : Int) (a1 : Int) (a2 : Int) (a3 : Int) (a4 : Int) (a5 : Int) (a6 : Int) (M : gM) (hk0 : kd a0 = 7) (h : wX7_keep kd ln post a0 a1 a2 a3 a4 a5 a6 M) : gMV l D cy yX7_keep cX7_keep 7 0 0 [.ref (gad a0), .int (gI a1), .int (gI a2), .int (gI a3), .int (gI a4), .int (gI a5), .int (gI a6)] kd ln rh M post := by
  refine gMV_of (own := RX7) (by decide) rfl (Nat.le_of_ble_eq_true rfl) ?_
  intro p e s m args below meth c A H0 Q C hret
  unfold wX7_keep at h
  refine q_aload_n C 0 rfl rfl dX7_keep_0 ?_
  obtain ⟨r1, h⟩ := h
  refine q_get (v := .ref (rh a0 27)) C fX7_78 hk0 (if_neg (Int.not_lt.mpr r1)) dX7_keep_1 (fun g2 => ?_)
  refine q_iconst C dX7_keep_4 ?_
  refine q_iload_n C 1 rfl rfl dX7_keep_5 ?_
  refine q_imul C dX7_keep_6 ?_
  refine q_iload_n C 2 rfl rfl dX7_keep_7 ?_
  obtain ⟨r3, h⟩ := h
  obtain ⟨r4, h⟩ := h
  refine q_iast C hk0 rfl r4 r3 dX7_keep_8 ?_
  refine q_aload_n C 0 rfl rfl dX7_keep_9 ?_
  refine q_get (v := .ref (rh a0 27)) C fX7_78 hk0 (if_neg (Int.not_lt.mpr r1)) dX7_keep_10 (fun g5 => ?_)
  refine q_iconst C dX7_keep_13 ?_
  refine q_iload_n C 1 rfl rfl dX7_keep_14 ?_
  refine q_imul C dX7_keep_15 ?_
  refine q_iconst C dX7_keep_16 ?_
  refine q_iadd C dX7_keep_17 ?_
  refine q_iload_n C 3 rfl rfl dX7_keep_18 ?_
  obtain ⟨r6, h⟩ := h
  obtain ⟨r7, h⟩ := h
  refine q_iast C hk0 rfl r7 r6 dX7_keep_19 ?_
  refine q_aload_n C 0 rfl rfl dX7_keep_20 ?_
  refine q_get (v := .ref (rh a0 27)) C fX7_78 hk0 (if_neg (Int.not_lt.mpr r1)) dX7_keep_21 (fun g8 => ?_)
  refine q_iconst C dX7_keep_24 ?_
  refine q_iload_n C 1 rfl rfl dX7_keep_25 ?_
  refine q_imul C dX7_keep_26 ?_
  refine q_iconst C dX7_keep_27 ?_
  refine q_iadd C dX7_keep_28 ?_
  refine q_iload C 4 rfl dX7_keep_29 ?_
  obtain ⟨r9, h⟩ := h
  obtain ⟨r10, h⟩ := h
  refine q_iast C hk0 rfl r10 r9 dX7_keep_31 ?_
  refine q_aload_n C 0 rfl rfl dX7_keep_32 ?_
  refine q_get (v := .ref (rh a0 27)) C fX7_78 hk0 (if_neg (Int.not_lt.mpr r1)) dX7_keep_33 (fun g11 => ?_)
  refine q_iconst C dX7_keep_36 ?_
  refine q_iload_n C 1 rfl rfl dX7_keep_37 ?_
  refine q_imul C dX7_keep_38 ?_
  refine q_iconst C dX7_keep_39 ?_
  refine q_iadd C dX7_keep_40 ?_
  refine q_iload C 5 rfl dX7_keep_41 ?_
  obtain ⟨r12, h⟩ := h
  obtain ⟨r13, h⟩ := h
  refine q_iast C hk0 rfl r13 r12 dX7_keep_43 ?_
  refine q_aload_n C 0 rfl rfl dX7_keep_44 ?_
  refine q_get (v := .ref (rh a0 27)) C fX7_78 hk0 (if_neg (Int.not_lt.mpr r1)) dX7_keep_45 (fun g14 => ?_)
  refine q_iconst C dX7_keep_48 ?_
  refine q_iload_n C 1 rfl rfl dX7_keep_49 ?_
  refine q_imul C dX7_keep_50 ?_
  refine q_iconst C dX7_keep_51 ?_
  refine q_iadd C dX7_keep_52 ?_
  refine q_iload C 6 rfl dX7_keep_53 ?_
  obtain ⟨r15, h⟩ := h
  obtain ⟨r16, h⟩ := h
  refine q_iast C hk0 rfl r16 r15 dX7_keep_55 ?_
  exact hret (gu (gu (gu (gu (gu M a0 27 (5 * a1) a2) a0 27 ((5 * a1) + 1) a3) a0 27 ((5 * a1) + 2) a4) a0 27 ((5 * a1) + 3) a5) a0 27 ((5 * a1) + 4) a6) _ _ dX7_keep_56 h
set_option maxHeartbeats 4000000 in
set_option maxRecDepth 100000 in
theorem mX7_line (l : Launch) (D : va_G) (cy : Nat → ClassId) (kd : gKd) (ln : gLn) (rh : gRh) (post : Int → gM → Prop) (a0 : Int) (a1 : Int) (a2 : Int) (a3 : Int) (a4 : Int) (a5 : Int) (M : gM) (hk0 : kd a0 = 7) (h : wX7_line kd ln post a0 a1 a2 a3 a4 a5 M) : gMI l D cy yX7_line cX7_line 11 .int 5 129 [.ref (gad a0), .int (gI a1), .int (gI a2), .int (gI a3), .int (gI a4), .int (gI a5)] kd ln rh M post := by
  refine gMI_of (own := RX7) (by decide) rfl (Nat.le_of_ble_eq_true rfl) ?_
  intro p e s m args below meth c A H0 Q C hret
  have t129 : ∀ (k58 : Int → Int → Int → gM → Prop), (∀ (x6 : Int), ∀ (x7 : Int), ∀ (x8 : Int), ∀ (M : gM), k58 x6 x7 x8 M → gW p l e (gRm 5 129) s m args below meth c D cy A H0 Q 11 kd ln rh 0 0 M 58 [(0, .ref (gad a0)), (6, .int (gI x6)), (7, .int (gI x7)), (8, .int (gI x8))] []) → ∀ (n : Nat) (x6 : Int) (x7 : Int) (x8 : Int) (x9 : Int) (x10 : Int) (M : gM), wX7_line_129 kd ln post a0 a1 a2 a3 a4 a5 k58 n x6 x7 x8 x9 x10 M → gW p l e (gRm 5 129) s m args below meth c D cy A H0 Q 11 kd ln rh 0 0 M 129 [(0, .ref (gad a0)), (6, .int (gI x6)), (7, .int (gI x7)), (8, .int (gI x8)), (9, .int (gI x9)), (10, .int (gI x10))] [] := by
    intro k58 hk58_
    intro n
    induction n with
    | zero => intro x6 x7 x8 x9 x10 M h; exact absurd h (by simp [wX7_line_129])
    | succ n ih =>
      intro x6 x7 x8 x9 x10 M h
      have hk129_ := ih
      rw [wX7_line_129] at h
      refine q_aload_n C 0 rfl rfl dX7_line_129 ?_
      refine q_iload C 5 rfl dX7_line_130 ?_
      refine q_iload C 4 rfl dX7_line_132 ?_
      refine q_iload C 1 rfl dX7_line_134 ?_
      refine q_iload C 3 rfl dX7_line_136 ?_
      refine q_isub C dX7_line_138 ?_
      refine q_callVI (As := [.int (gI x10), .int (gI x9), .int (gI (x6 - x8))]) (st := []) C vX7_196 kX7_isBest ⟨Nat.le_of_ble_eq_true rfl, Nat.le_of_ble_eq_true rfl⟩ ⟨Nat.le_of_ble_eq_true rfl, Nat.le_of_ble_eq_true rfl⟩ rfl hk0 ⟨_, _, rfl⟩ (by decide) rfl (Nat.le_of_ble_eq_true rfl) (mX7_isBest l D cy kd ln rh _ a0 x10 x9 (x6 - x8) M hk0 h) dX7_line_139 (fun c36 M35 g37 h => ?_)
      have h := h g37
      refine q_if_ne (tgt := 151) C g37 (by decide) dX7_line_142 (fun b38 => ?_) (fun b38 => ?_)
      · have h := h.1 b38
        refine q_aload_n C 0 rfl rfl dX7_line_151 ?_
        refine q_iload C 3 rfl dX7_line_152 ?_
        refine q_iconst C dX7_line_154 ?_
        refine q_iadd C dX7_line_155 ?_
        refine q_aload_n C 0 rfl rfl dX7_line_156 ?_
        obtain ⟨r39, h⟩ := h
        refine q_get (v := .ref (rh a0 16)) C fX7_51 hk0 (if_neg (Int.not_lt.mpr r39)) dX7_line_157 (fun g40 => ?_)
        refine q_iload C 5 rfl dX7_line_160 ?_
        obtain ⟨r41, h⟩ := h
        refine q_iald C hk0 rfl (fun _ q => q) r41 dX7_line_162 (fun g42 => ?_)
        have h := h g42
        refine q_aload_n C 0 rfl rfl dX7_line_163 ?_
        obtain ⟨r43, h⟩ := h
        refine q_get (v := .ref (rh a0 17)) C fX7_54 hk0 (if_neg (Int.not_lt.mpr r43)) dX7_line_164 (fun g44 => ?_)
        refine q_iload C 5 rfl dX7_line_167 ?_
        obtain ⟨r45, h⟩ := h
        refine q_iald C hk0 rfl (fun _ q => q) r45 dX7_line_169 (fun g46 => ?_)
        have h := h g46
        refine q_aload_n C 0 rfl rfl dX7_line_170 ?_
        obtain ⟨r47, h⟩ := h
        refine q_get (v := .ref (rh a0 18)) C fX7_57 hk0 (if_neg (Int.not_lt.mpr r47)) dX7_line_171 (fun g48 => ?_)
        refine q_iload C 5 rfl dX7_line_174 ?_
        obtain ⟨r49, h⟩ := h
        refine q_iald C hk0 rfl (fun _ q => q) r49 dX7_line_176 (fun g50 => ?_)
        have h := h g50
        refine q_aload_n C 0 rfl rfl dX7_line_177 ?_
        obtain ⟨r51, h⟩ := h
        refine q_get (v := .ref (rh a0 19)) C fX7_60 hk0 (if_neg (Int.not_lt.mpr r51)) dX7_line_178 (fun g52 => ?_)
        refine q_iload C 5 rfl dX7_line_181 ?_
        obtain ⟨r53, h⟩ := h
        refine q_iald C hk0 rfl (fun _ q => q) r53 dX7_line_183 (fun g54 => ?_)
        have h := h g54
        refine q_iconst C dX7_line_184 ?_
        refine q_iload C 4 rfl dX7_line_185 ?_
        refine q_isub C dX7_line_187 ?_
        refine q_callVV (As := [.int (gI (x8 + 1)), .int (gI (M35 a0 16 x10)), .int (gI (M35 a0 17 x10)), .int (gI (M35 a0 18 x10)), .int (gI (M35 a0 19 x10)), .int (gI (1 - x9))]) (st := []) C vX7_199 kX7_keep ⟨Nat.le_of_ble_eq_true rfl, Nat.le_of_ble_eq_true rfl⟩ ⟨Nat.le_of_ble_eq_true rfl, Nat.le_of_ble_eq_true rfl⟩ rfl hk0 ⟨_, _, rfl⟩ (by decide) rfl (Nat.le_of_ble_eq_true rfl) (mX7_keep l D cy kd ln rh _ a0 (x8 + 1) (M35 a0 16 x10) (M35 a0 17 x10) (M35 a0 18 x10) (M35 a0 19 x10) (1 - x9) M35 hk0 h) dX7_line_188 (fun M55 h => ?_)
        refine q_iinc (lv' := [(8, .int (gI (x8 + 1))), (0, .ref (gad a0)), (6, .int (gI x6)), (7, .int (gI x7)), (9, .int (gI x9)), (10, .int (gI x10))]) C 3 rfl (by decide) rfl dX7_line_191 ?_
        refine q_goto (tgt := 58) C (by decide) dX7_line_194 ?_
        refine q_lv (lv' := [(0, .ref (gad a0)), (6, .int (gI x6)), (7, .int (gI x7)), (8, .int (gI (x8 + 1)))]) [1, 2, 3, 0] rfl ?_
        exact hk58_ x6 x7 (x8 + 1) M55 h
      · have h := h.2 b38
        refine q_iinc (lv' := [(10, .int (gI (x10 + 1))), (0, .ref (gad a0)), (6, .int (gI x6)), (7, .int (gI x7)), (8, .int (gI x8)), (9, .int (gI x9))]) C 5 rfl (by decide) rfl dX7_line_145 ?_
        refine q_goto (tgt := 129) C (by decide) dX7_line_148 ?_
        refine q_lv (lv' := [(0, .ref (gad a0)), (6, .int (gI x6)), (7, .int (gI x7)), (8, .int (gI x8)), (9, .int (gI x9)), (10, .int (gI (x10 + 1)))]) [1, 2, 3, 4, 5, 0] rfl ?_
        exact hk129_ x6 x7 x8 x9 (x10 + 1) M35 h
  have t58 : ∀ (n : Nat) (x6 : Int) (x7 : Int) (x8 : Int) (M : gM), wX7_line_58 kd ln post a0 a1 a2 a3 a4 a5 n x6 x7 x8 M → gW p l e (gRm 5 129) s m args below meth c D cy A H0 Q 11 kd ln rh 0 0 M 58 [(0, .ref (gad a0)), (6, .int (gI x6)), (7, .int (gI x7)), (8, .int (gI x8))] [] := by
    intro n
    induction n with
    | zero => intro x6 x7 x8 M h; exact absurd h (by simp [wX7_line_58])
    | succ n ih =>
      intro x6 x7 x8 M h
      have hk58_ := ih
      rw [wX7_line_58] at h
      refine q_iload C 3 rfl dX7_line_58 ?_
      refine q_iload C 2 rfl dX7_line_60 ?_
      obtain ⟨r12, h⟩ := h
      obtain ⟨r13, h⟩ := h
      refine q_icmp_ge (tgt := 197) C r12 r13 (by decide) dX7_line_62 (fun b14 => ?_) (fun b14 => ?_)
      · have h := h.1 b14
        refine q_aload_n C 0 rfl rfl dX7_line_197 ?_
        refine q_iload C 2 rfl dX7_line_198 ?_
        refine q_put (x := x7) (ty := .int) C fX7_75 hk0 (fun _ _ _ q => by cases q; rfl) (congrArg (fun z => Value.int (gI z)) gu_s) rfl rfl r13 (fun j q => absurd (show (0 : Nat) = j + 3 from q) (by omega)) dX7_line_200 ?_
        refine q_iload C 2 rfl dX7_line_203 ?_
        exact hret x7 (gu M a0 26 (-1) x7) _ _ dX7_line_205 r13 h
      · have h := h.2 b14
        refine q_aload_n C 0 rfl rfl dX7_line_65 ?_
        obtain ⟨r15, h⟩ := h
        refine q_get (v := .ref (rh a0 27)) C fX7_78 hk0 (if_neg (Int.not_lt.mpr r15)) dX7_line_66 (fun g16 => ?_)
        refine q_iconst C dX7_line_69 ?_
        refine q_iload C 3 rfl dX7_line_70 ?_
        refine q_imul C dX7_line_72 ?_
        refine q_iconst C dX7_line_73 ?_
        refine q_iadd C dX7_line_74 ?_
        obtain ⟨r17, h⟩ := h
        refine q_iald C hk0 rfl (fun _ q => q) r17 dX7_line_75 (fun g18 => ?_)
        have h := h g18
        refine q_topi (fun v19 ev19 => ?_)
        have h := h v19 ev19
        have gv19 : rng v19 := by rw [ev19]; exact g18
        refine q_istore (lv' := [(9, .int (gI v19)), (0, .ref (gad a0)), (6, .int (gI x6)), (7, .int (gI x7)), (8, .int (gI x8))]) C (by decide) rfl dX7_line_76 ?_
        refine q_aload_n C 1 rfl rfl dX7_line_78 ?_
        refine q_aload_n C 1 rfl rfl dX7_line_79 ?_
        refine q_get (v := .ref (rh a0 27)) C fX7_78 hk0 (if_neg (Int.not_lt.mpr r15)) dX7_line_80 (fun g20 => ?_)
        refine q_iconst C dX7_line_83 ?_
        refine q_iload C 4 rfl dX7_line_84 ?_
        refine q_imul C dX7_line_86 ?_
        obtain ⟨r21, h⟩ := h
        refine q_iald C hk0 rfl (fun _ q => q) r21 dX7_line_87 (fun g22 => ?_)
        have h := h g22
        refine q_aload_n C 1 rfl rfl dX7_line_88 ?_
        refine q_get (v := .ref (rh a0 27)) C fX7_78 hk0 (if_neg (Int.not_lt.mpr r15)) dX7_line_89 (fun g23 => ?_)
        refine q_iconst C dX7_line_92 ?_
        refine q_iload C 4 rfl dX7_line_93 ?_
        refine q_imul C dX7_line_95 ?_
        refine q_iconst C dX7_line_96 ?_
        refine q_iadd C dX7_line_97 ?_
        obtain ⟨r24, h⟩ := h
        refine q_iald C hk0 rfl (fun _ q => q) r24 dX7_line_98 (fun g25 => ?_)
        have h := h g25
        refine q_aload_n C 1 rfl rfl dX7_line_99 ?_
        refine q_get (v := .ref (rh a0 27)) C fX7_78 hk0 (if_neg (Int.not_lt.mpr r15)) dX7_line_100 (fun g26 => ?_)
        refine q_iconst C dX7_line_103 ?_
        refine q_iload C 4 rfl dX7_line_104 ?_
        refine q_imul C dX7_line_106 ?_
        refine q_iconst C dX7_line_107 ?_
        refine q_iadd C dX7_line_108 ?_
        obtain ⟨r27, h⟩ := h
        refine q_iald C hk0 rfl (fun _ q => q) r27 dX7_line_109 (fun g28 => ?_)
        have h := h g28
        refine q_aload_n C 1 rfl rfl dX7_line_110 ?_
        refine q_get (v := .ref (rh a0 27)) C fX7_78 hk0 (if_neg (Int.not_lt.mpr r15)) dX7_line_111 (fun g29 => ?_)
        refine q_iconst C dX7_line_114 ?_
        refine q_iload C 4 rfl dX7_line_115 ?_
        refine q_imul C dX7_line_117 ?_
        refine q_iconst C dX7_line_118 ?_
        refine q_iadd C dX7_line_119 ?_
        obtain ⟨r30, h⟩ := h
        refine q_iald C hk0 rfl (fun _ q => q) r30 dX7_line_120 (fun g31 => ?_)
        have h := h g31
        refine q_iload C 0 rfl dX7_line_121 ?_
        refine q_callVV (As := [.int (gI (M a0 27 (5 * x8))), .int (gI (M a0 27 ((5 * x8) + 1))), .int (gI (M a0 27 ((5 * x8) + 2))), .int (gI (M a0 27 ((5 * x8) + 3))), .int (gI v19)]) (st := []) C vX7_138 kX7_find ⟨Nat.le_of_ble_eq_true rfl, Nat.le_of_ble_eq_true rfl⟩ ⟨Nat.le_of_ble_eq_true rfl, Nat.le_of_ble_eq_true rfl⟩ rfl hk0 ⟨_, _, rfl⟩ (by decide) rfl (Nat.le_of_ble_eq_true rfl) (mX7_find l D cy kd ln rh _ a0 (M a0 27 (5 * x8)) (M a0 27 ((5 * x8) + 1)) (M a0 27 ((5 * x8) + 2)) (M a0 27 ((5 * x8) + 3)) v19 M hk0 h) dX7_line_123 (fun M32 h => ?_)
        refine q_iconst C dX7_line_126 ?_
        refine q_istore (lv' := [(10, .int (gI 0)), (9, .int (gI v19)), (0, .ref (gad a0)), (6, .int (gI x6)), (7, .int (gI x7)), (8, .int (gI x8))]) C (by decide) rfl dX7_line_127 ?_
        refine q_lv (lv' := [(0, .ref (gad a0)), (6, .int (gI x6)), (7, .int (gI x7)), (8, .int (gI x8)), (9, .int (gI v19)), (10, .int (gI 0))]) [2, 3, 4, 5, 1, 0] rfl ?_
        obtain ⟨j129, h⟩ := h
        exact t129 (wX7_line_58 kd ln post a0 a1 a2 a3 a4 a5 n) hk58_ j129 x6 x7 x8 v19 0 M32 h
  have t53 : ∀ (x6 : Int) (y0 : Int) (M : gM), wX7_line_53 kd ln post a0 a1 a2 a3 a4 a5 x6 y0 M → gW p l e (gRm 5 129) s m args below meth c D cy A H0 Q 11 kd ln rh 0 0 M 53 [(0, .ref (gad a0)), (6, .int (gI x6))] [.int (gI y0)] := by
    intro  x6 y0 M h
    unfold wX7_line_53 at h
    refine q_istore (lv' := [(7, .int (gI y0)), (0, .ref (gad a0)), (6, .int (gI x6))]) C (by decide) rfl dX7_line_53 ?_
    refine q_iconst C dX7_line_55 ?_
    refine q_istore (lv' := [(8, .int (gI 0)), (7, .int (gI y0)), (0, .ref (gad a0)), (6, .int (gI x6))]) C (by decide) rfl dX7_line_56 ?_
    refine q_lv (lv' := [(0, .ref (gad a0)), (6, .int (gI x6)), (7, .int (gI y0)), (8, .int (gI 0))]) [2, 3, 1, 0] rfl ?_
    obtain ⟨j58, h⟩ := h
    exact t58  j58 x6 y0 0 M h
  unfold wX7_line at h
  refine q_aload_n C 0 rfl rfl dX7_line_0 ?_
  refine q_iload_n C 1 rfl rfl dX7_line_1 ?_
  refine q_iload_n C 2 rfl rfl dX7_line_2 ?_
  refine q_iload_n C 3 rfl rfl dX7_line_3 ?_
  refine q_iload C 4 rfl dX7_line_4 ?_
  refine q_iload C 5 rfl dX7_line_6 ?_
  refine q_callVI (As := [.int (gI a1), .int (gI a2), .int (gI a3), .int (gI a4), .int (gI a5)]) (st := []) C vX7_190 kX7_mayAsk ⟨Nat.le_of_ble_eq_true rfl, Nat.le_of_ble_eq_true rfl⟩ ⟨Nat.le_of_ble_eq_true rfl, Nat.le_of_ble_eq_true rfl⟩ rfl hk0 ⟨_, _, rfl⟩ (by decide) rfl (Nat.le_of_ble_eq_true rfl) (mX7_mayAsk l D cy kd ln rh _ a0 a1 a2 a3 a4 a5 M hk0 h) dX7_line_8 (fun c2 M1 g3 h => ?_)
  have h := h g3
  refine q_if_ne (tgt := 16) C g3 (by decide) dX7_line_11 (fun b4 => ?_) (fun b4 => ?_)
  · have h := h.1 b4
    refine q_aload_n C 0 rfl rfl dX7_line_16 ?_
    refine q_iload_n C 1 rfl rfl dX7_line_17 ?_
    refine q_iload_n C 2 rfl rfl dX7_line_18 ?_
    refine q_iload_n C 3 rfl rfl dX7_line_19 ?_
    refine q_iload C 4 rfl dX7_line_20 ?_
    refine q_iload C 5 rfl dX7_line_22 ?_
    refine q_callVI (As := [.int (gI a1), .int (gI a2), .int (gI a3), .int (gI a4), .int (gI a5)]) (st := []) C vX7_123 kX7_distanceOf ⟨Nat.le_of_ble_eq_true rfl, Nat.le_of_ble_eq_true rfl⟩ ⟨Nat.le_of_ble_eq_true rfl, Nat.le_of_ble_eq_true rfl⟩ rfl hk0 ⟨_, _, rfl⟩ (by decide) rfl (Nat.le_of_ble_eq_true rfl) (mX7_distanceOf l D cy kd ln rh _ a0 a1 a2 a3 a4 a5 M1 hk0 h) dX7_line_24 (fun c6 M5 g7 h => ?_)
    have h := h g7
    refine q_istore (lv' := [(6, .int (gI c6)), (0, .ref (gad a0)), (1, .int (gI a1)), (2, .int (gI a2)), (3, .int (gI a3)), (4, .int (gI a4)), (5, .int (gI a5))]) C (by decide) rfl dX7_line_27 ?_
    refine q_aload_n C 1 rfl rfl dX7_line_29 ?_
    refine q_iconst C dX7_line_30 ?_
    refine q_iload_n C 2 rfl rfl dX7_line_31 ?_
    refine q_iload_n C 3 rfl rfl dX7_line_32 ?_
    refine q_iload_n C 4 rfl rfl dX7_line_33 ?_
    refine q_iload C 5 rfl dX7_line_34 ?_
    refine q_iload C 6 rfl dX7_line_36 ?_
    refine q_callVV (As := [.int (gI 0), .int (gI a1), .int (gI a2), .int (gI a3), .int (gI a4), .int (gI a5)]) (st := []) C vX7_199 kX7_keep ⟨Nat.le_of_ble_eq_true rfl, Nat.le_of_ble_eq_true rfl⟩ ⟨Nat.le_of_ble_eq_true rfl, Nat.le_of_ble_eq_true rfl⟩ rfl hk0 ⟨_, _, rfl⟩ (by decide) rfl (Nat.le_of_ble_eq_true rfl) (mX7_keep l D cy kd ln rh _ a0 0 a1 a2 a3 a4 a5 M5 hk0 h) dX7_line_38 (fun M8 h => ?_)
    refine q_iload C 0 rfl dX7_line_41 ?_
    refine q_iconst C dX7_line_43 ?_
    refine q_icmp_ne (tgt := 51) C g7 (show rng (-1) by decide) (by decide) dX7_line_44 (fun b11 => ?_) (fun b11 => ?_)
    · have h := h.1 b11
      refine q_iload C 0 rfl dX7_line_51 ?_
      refine q_lv (lv' := [(0, .ref (gad a0)), (6, .int (gI c6))]) [1, 0] rfl ?_
      exact t53  c6 c6 M8 h
    · have h := h.2 b11
      refine q_iconst C dX7_line_47 ?_
      refine q_goto (tgt := 53) C (by decide) dX7_line_48 ?_
      refine q_lv (lv' := [(0, .ref (gad a0)), (6, .int (gI c6))]) [1, 0] rfl ?_
      exact t53  c6 0 M8 h
  · have h := h.2 b4
    refine q_iconst C dX7_line_14 ?_
    exact hret 0 M1 _ _ dX7_line_15 (show rng 0 by decide) h
set_option maxHeartbeats 4000000 in
set_option maxRecDepth 100000 in
theorem mX6_ply (l : Launch) (D : va_G) (cy : Nat → ClassId) (kd : gKd) (ln : gLn) (rh : gRh) (post : Int → gM → Prop) (a0 : Int) (a1 : Int) (a2 : Int) (M : gM) (hk0 : kd a0 = 6) (h : wX6_ply kd ln post a0 a1 a2 M) : gMI l D cy yX6_ply cX6_ply 3 .int 0 0 [.ref (gad a0), .int (gI a1), .int (gI a2)] kd ln rh M post := by
  refine gMI_of (own := RX6) (by decide) rfl (Nat.le_of_ble_eq_true rfl) ?_
  intro p e s m args below meth c A H0 Q C hret
  unfold wX6_ply at h
  refine q_iload_n C 1 rfl rfl dX6_ply_0 ?_
  obtain ⟨r1, h⟩ := h
  refine q_if_lt (tgt := 21) C r1 (by decide) dX6_ply_1 (fun b2 => ?_) (fun b2 => ?_)
  · have h := h.1 b2
    refine q_iconst C dX6_ply_21 ?_
    exact hret (-1) M _ _ dX6_ply_22 (show rng (-1) by decide) h
  · have h := h.2 b2
    refine q_iload_n C 1 rfl rfl dX6_ply_4 ?_
    refine q_aload_n C 0 rfl rfl dX6_ply_5 ?_
    refine q_get (v := .int (gI (M a0 8 (-1)))) C fX6_56 hk0 rfl dX6_ply_6 (fun g3 => ?_)
    have h := h g3
    refine q_icmp_ge (tgt := 21) C r1 g3 (by decide) dX6_ply_9 (fun b4 => ?_) (fun b4 => ?_)
    · have h := h.1 b4
      refine q_iconst C dX6_ply_21 ?_
      exact hret (-1) M _ _ dX6_ply_22 (show rng (-1) by decide) h
    · have h := h.2 b4
      refine q_iload_n C 2 rfl rfl dX6_ply_12 ?_
      obtain ⟨r5, h⟩ := h
      refine q_if_lt (tgt := 21) C r5 (by decide) dX6_ply_13 (fun b6 => ?_) (fun b6 => ?_)
      · have h := h.1 b6
        refine q_iconst C dX6_ply_21 ?_
        exact hret (-1) M _ _ dX6_ply_22 (show rng (-1) by decide) h
      · have h := h.2 b6
        refine q_iload_n C 2 rfl rfl dX6_ply_16 ?_
        refine q_iconst C dX6_ply_17 ?_
        refine q_icmp_lt (tgt := 23) C r5 (show rng 5 by decide) (by decide) dX6_ply_18 (fun b7 => ?_) (fun b7 => ?_)
        · have h := h.1 b7
          refine q_aload_n C 0 rfl rfl dX6_ply_23 ?_
          obtain ⟨r8, h⟩ := h
          refine q_get (v := .ref (rh a0 7)) C fX6_39 hk0 (if_neg (Int.not_lt.mpr r8)) dX6_ply_24 (fun g9 => ?_)
          refine q_iload_n C 1 rfl rfl dX6_ply_27 ?_
          refine q_iconst C dX6_ply_28 ?_
          refine q_imul C dX6_ply_29 ?_
          refine q_iload_n C 2 rfl rfl dX6_ply_30 ?_
          refine q_iadd C dX6_ply_31 ?_
          obtain ⟨r10, h⟩ := h
          refine q_iald C hk0 rfl (fun _ q => q) r10 dX6_ply_32 (fun g11 => ?_)
          have h := h g11
          exact hret (M a0 7 ((a1 * 5) + a2)) M _ _ dX6_ply_33 g11 h
        · have h := h.2 b7
          refine q_iconst C dX6_ply_21 ?_
          exact hret (-1) M _ _ dX6_ply_22 (show rng (-1) by decide) h
set_option maxHeartbeats 4000000 in
set_option maxRecDepth 100000 in
theorem mX7_ply (l : Launch) (D : va_G) (cy : Nat → ClassId) (kd : gKd) (ln : gLn) (rh : gRh) (post : Int → gM → Prop) (a0 : Int) (a1 : Int) (a2 : Int) (M : gM) (hk0 : kd a0 = 7) (h : wX7_ply kd ln post a0 a1 a2 M) : gMI l D cy yX7_ply cX7_ply 3 .int 1 22 [.ref (gad a0), .int (gI a1), .int (gI a2)] kd ln rh M post := by
  refine gMI_of (own := RX7) (by decide) rfl (Nat.le_of_ble_eq_true rfl) ?_
  intro p e s m args below meth c A H0 Q C hret
  unfold wX7_ply at h
  refine q_aload_n C 0 rfl rfl dX7_ply_0 ?_
  refine q_iconst C dX7_ply_1 ?_
  refine q_put (x := 0) (ty := .int) C fX7_81 hk0 (fun _ _ _ q => by cases q; rfl) (congrArg (fun z => Value.int (gI z)) gu_s) rfl rfl (show rng 0 by decide) (fun j q => absurd (show (0 : Nat) = j + 3 from q) (by omega)) dX7_ply_2 ?_
  refine q_iload_n C 1 rfl rfl dX7_ply_5 ?_
  refine q_iconst C dX7_ply_6 ?_
  refine q_aload_n C 0 rfl rfl dX7_ply_7 ?_
  refine q_get (v := .int (gI ((gu M a0 0 (-1) 0) a0 26 (-1)))) C fX7_75 hk0 rfl dX7_ply_8 (fun g1 => ?_)
  have h := h g1
  refine q_callSI (As := [.int (gI a1), .int (gI 0), .int (gI ((gu M a0 0 (-1) 0) a0 26 (-1)))]) (st := []) C vX7_84 kX7_in ⟨Nat.le_of_ble_eq_true rfl, Nat.le_of_ble_eq_true rfl⟩ ⟨Nat.le_of_ble_eq_true rfl, Nat.le_of_ble_eq_true rfl⟩ rfl rfl (Nat.le_of_ble_eq_true rfl) (mX7_in l D cy kd ln rh _ a1 0 ((gu M a0 0 (-1) 0) a0 26 (-1)) (gu M a0 0 (-1) 0)  h) dX7_ply_11 (fun c3 M2 g4 h => ?_)
  have h := h g4
  refine q_if_eq (tgt := 39) C g4 (by decide) dX7_ply_14 (fun b5 => ?_) (fun b5 => ?_)
  · have h := h.1 b5
    refine q_iconst C dX7_ply_39 ?_
    exact hret (-1) M2 _ _ dX7_ply_40 (show rng (-1) by decide) h
  · have h := h.2 b5
    refine q_iload_n C 2 rfl rfl dX7_ply_17 ?_
    refine q_iconst C dX7_ply_18 ?_
    refine q_iconst C dX7_ply_19 ?_
    refine q_callSI (As := [.int (gI a2), .int (gI 0), .int (gI 4)]) (st := []) C vX7_84 kX7_in ⟨Nat.le_of_ble_eq_true rfl, Nat.le_of_ble_eq_true rfl⟩ ⟨Nat.le_of_ble_eq_true rfl, Nat.le_of_ble_eq_true rfl⟩ rfl rfl (Nat.le_of_ble_eq_true rfl) (mX7_in l D cy kd ln rh _ a2 0 4 M2  h) dX7_ply_20 (fun c7 M6 g8 h => ?_)
    have h := h g8
    refine q_if_eq (tgt := 39) C g8 (by decide) dX7_ply_23 (fun b9 => ?_) (fun b9 => ?_)
    · have h := h.1 b9
      refine q_iconst C dX7_ply_39 ?_
      exact hret (-1) M6 _ _ dX7_ply_40 (show rng (-1) by decide) h
    · have h := h.2 b9
      refine q_aload_n C 0 rfl rfl dX7_ply_26 ?_
      obtain ⟨r10, h⟩ := h
      refine q_get (v := .ref (rh a0 27)) C fX7_78 hk0 (if_neg (Int.not_lt.mpr r10)) dX7_ply_27 (fun g11 => ?_)
      refine q_iconst C dX7_ply_30 ?_
      refine q_iload_n C 1 rfl rfl dX7_ply_31 ?_
      refine q_imul C dX7_ply_32 ?_
      refine q_iload_n C 2 rfl rfl dX7_ply_33 ?_
      refine q_iadd C dX7_ply_34 ?_
      obtain ⟨r12, h⟩ := h
      refine q_iald C hk0 rfl (fun _ q => q) r12 dX7_ply_35 (fun g13 => ?_)
      have h := h g13
      refine q_goto (tgt := 40) C (by decide) dX7_ply_36 ?_
      exact hret (M6 a0 27 ((5 * a1) + a2)) M6 _ _ dX7_ply_40 g13 h
set_option maxHeartbeats 4000000 in
set_option maxRecDepth 100000 in
theorem mX5_numberOf (l : Launch) (D : va_G) (cy : Nat → ClassId) (kd : gKd) (ln : gLn) (rh : gRh) (post : Int → gM → Prop) (a0 : Int) (a1 : Int) (a2 : Int) (a3 : Int) (a4 : Int) (M : gM) (hk0 : kd a0 = 5) (h : wX5_numberOf kd ln post a0 a1 a2 a3 a4 M) : gMI l D cy yX5_numberOf cX5_numberOf 8 .int 2 49 [.ref (gad a0), .int (gI a1), .int (gI a2), .int (gI a3), .int (gI a4)] kd ln rh M post := by
  refine gMI_of (own := RX5) (by decide) rfl (Nat.le_of_ble_eq_true rfl) ?_
  intro p e s m args below meth c A H0 Q C hret
  have t71 : ∀ (k45 : Int → Int → Int → gM → Prop), (∀ (x5 : Int), ∀ (x6 : Int), ∀ (x7 : Int), ∀ (M : gM), k45 x5 x6 x7 M → gW p l e (gRm 2 49) s m args below meth c D cy A H0 Q 8 kd ln rh 0 0 M 45 [(0, .ref (gad a0)), (5, .int (gI x5)), (6, .int (gI x6)), (7, .int (gI x7))] []) → ∀ (x5 : Int) (x7 : Int) (y0 : Int) (y1 : Int) (M : gM), wX5_numberOf_71 kd ln post a0 a1 a2 a3 a4 k45 x5 x7 y0 y1 M → gW p l e (gRm 2 49) s m args below meth c D cy A H0 Q 8 kd ln rh 0 0 M 71 [(0, .ref (gad a0)), (5, .int (gI x5)), (7, .int (gI x7))] [.int (gI y0), .int (gI y1)] := by
    intro k45 hk45_ x5 x7 y0 y1 M h
    unfold wX5_numberOf_71 at h
    refine q_iadd C dX5_numberOf_71 ?_
    refine q_topi (fun v28 ev28 => ?_)
    have h := h v28 ev28
    refine q_istore (lv' := [(6, .int (gI v28)), (0, .ref (gad a0)), (5, .int (gI x5)), (7, .int (gI x7))]) C (by decide) rfl dX5_numberOf_72 ?_
    refine q_iinc (lv' := [(7, .int (gI (x7 + 1))), (6, .int (gI v28)), (0, .ref (gad a0)), (5, .int (gI x5))]) C 3 rfl (by decide) rfl dX5_numberOf_74 ?_
    refine q_goto (tgt := 45) C (by decide) dX5_numberOf_77 ?_
    refine q_lv (lv' := [(0, .ref (gad a0)), (5, .int (gI x5)), (6, .int (gI v28)), (7, .int (gI (x7 + 1)))]) [2, 3, 1, 0] rfl ?_
    exact hk45_ x5 v28 (x7 + 1) M h
  have t45 : ∀ (n : Nat) (x5 : Int) (x6 : Int) (x7 : Int) (M : gM), wX5_numberOf_45 kd ln post a0 a1 a2 a3 a4 n x5 x6 x7 M → gW p l e (gRm 2 49) s m args below meth c D cy A H0 Q 8 kd ln rh 0 0 M 45 [(0, .ref (gad a0)), (5, .int (gI x5)), (6, .int (gI x6)), (7, .int (gI x7))] [] := by
    intro n
    induction n with
    | zero => intro x5 x6 x7 M h; exact absurd h (by simp [wX5_numberOf_45])
    | succ n ih =>
      intro x5 x6 x7 M h
      have hk45_ := ih
      rw [wX5_numberOf_45] at h
      refine q_iload C 3 rfl dX5_numberOf_45 ?_
      refine q_iload C 1 rfl dX5_numberOf_47 ?_
      obtain ⟨r19, h⟩ := h
      obtain ⟨r20, h⟩ := h
      refine q_icmp_ge (tgt := 80) C r19 r20 (by decide) dX5_numberOf_49 (fun b21 => ?_) (fun b21 => ?_)
      · have h := h.1 b21
        refine q_iload C 2 rfl dX5_numberOf_80 ?_
        obtain ⟨r22, h⟩ := h
        exact hret x6 M _ _ dX5_numberOf_82 r22 h
      · have h := h.2 b21
        refine q_iload C 2 rfl dX5_numberOf_52 ?_
        refine q_aload_n C 0 rfl rfl dX5_numberOf_54 ?_
        obtain ⟨r23, h⟩ := h
        refine q_get (v := .ref (rh a0 1)) C fX5_44 hk0 (if_neg (Int.not_lt.mpr r23)) dX5_numberOf_55 (fun g24 => ?_)
        refine q_iload C 3 rfl dX5_numberOf_58 ?_
        obtain ⟨r25, h⟩ := h
        refine q_bald C hk0 rfl (fun _ q => q) r25 dX5_numberOf_60 (fun g26 => ?_)
        have h := h g26
        refine q_bipush C (by decide) dX5_numberOf_61 ?_
        refine q_icmp_eq (tgt := 70) C g26 (show rng (-2) by decide) (by decide) dX5_numberOf_63 (fun b27 => ?_) (fun b27 => ?_)
        · have h := h.1 b27
          refine q_iconst C dX5_numberOf_70 ?_
          refine q_lv (lv' := [(0, .ref (gad a0)), (5, .int (gI x5)), (7, .int (gI x7))]) [0, 1, 3] rfl ?_
          exact t71 (wX5_numberOf_45 kd ln post a0 a1 a2 a3 a4 n) hk45_ x5 x7 0 x6 M h
        · have h := h.2 b27
          refine q_iconst C dX5_numberOf_66 ?_
          refine q_goto (tgt := 71) C (by decide) dX5_numberOf_67 ?_
          refine q_lv (lv' := [(0, .ref (gad a0)), (5, .int (gI x5)), (7, .int (gI x7))]) [0, 1, 3] rfl ?_
          exact t71 (wX5_numberOf_45 kd ln post a0 a1 a2 a3 a4 n) hk45_ x5 x7 1 x6 M h
  unfold wX5_numberOf at h
  refine q_aload_n C 0 rfl rfl dX5_numberOf_0 ?_
  refine q_get (v := gR (M a0 2 (-1))) C fX5_35 hk0 rfl dX5_numberOf_1 (fun g1 => ?_)
  obtain ⟨r2, h⟩ := h
  refine q_nn r2 (by decide) ?_
  refine q_iload_n C 1 rfl rfl dX5_numberOf_4 ?_
  refine q_iload_n C 2 rfl rfl dX5_numberOf_5 ?_
  refine q_iload_n C 3 rfl rfl dX5_numberOf_6 ?_
  refine q_iload C 4 rfl dX5_numberOf_7 ?_
  refine q_callVI (As := [.int (gI a1), .int (gI a2), .int (gI a3), .int (gI a4)]) (st := []) C vX5_76 kX2_cellOf ⟨Nat.le_of_ble_eq_true rfl, Nat.le_of_ble_eq_true rfl⟩ ⟨Nat.le_of_ble_eq_true rfl, Nat.le_of_ble_eq_true rfl⟩ rfl r2 ⟨_, _, rfl⟩ (by decide) rfl (Nat.le_of_ble_eq_true rfl) (mX2_cellOf l D cy kd ln rh _ (M a0 2 (-1)) a1 a2 a3 a4 M r2 h) dX5_numberOf_9 (fun c4 M3 g5 h => ?_)
  have h := h g5
  refine q_istore (lv' := [(5, .int (gI c4)), (0, .ref (gad a0)), (1, .int (gI a1)), (2, .int (gI a2)), (3, .int (gI a3)), (4, .int (gI a4))]) C (by decide) rfl dX5_numberOf_12 ?_
  refine q_iload C 0 rfl dX5_numberOf_14 ?_
  refine q_iconst C dX5_numberOf_16 ?_
  refine q_icmp_ne (tgt := 22) C g5 (show rng (-1) by decide) (by decide) dX5_numberOf_17 (fun b6 => ?_) (fun b6 => ?_)
  · have h := h.1 b6
    refine q_aload_n C 1 rfl rfl dX5_numberOf_22 ?_
    obtain ⟨r7, h⟩ := h
    refine q_get (v := .ref (rh a0 9)) C fX5_54 hk0 (if_neg (Int.not_lt.mpr r7)) dX5_numberOf_23 (fun g8 => ?_)
    refine q_iload C 0 rfl dX5_numberOf_26 ?_
    refine q_callSI (As := [.int (gI c4)]) (st := [.ref (rh a0 9)]) C vX5_98 kX5_pairOf ⟨Nat.le_of_ble_eq_true rfl, Nat.le_of_ble_eq_true rfl⟩ ⟨Nat.le_of_ble_eq_true rfl, Nat.le_of_ble_eq_true rfl⟩ rfl rfl (Nat.le_of_ble_eq_true rfl) (mX5_pairOf l D cy kd ln rh _ c4 M3  h) dX5_numberOf_28 (fun c10 M9 g11 h => ?_)
    have h := h g11
    obtain ⟨r12, h⟩ := h
    refine q_iald C hk0 rfl (fun _ q => q) r12 dX5_numberOf_31 (fun g13 => ?_)
    have h := h g13
    refine q_topi (fun v14 ev14 => ?_)
    have h := h v14 ev14
    have gv14 : rng v14 := by rw [ev14]; exact g13
    refine q_istore (lv' := [(6, .int (gI v14)), (5, .int (gI c4)), (0, .ref (gad a0)), (1, .int (gI a1)), (2, .int (gI a2)), (3, .int (gI a3)), (4, .int (gI a4))]) C (by decide) rfl dX5_numberOf_32 ?_
    refine q_iload C 1 rfl dX5_numberOf_34 ?_
    refine q_callSI (As := [.int (gI c4)]) (st := []) C vX5_98 kX5_pairOf ⟨Nat.le_of_ble_eq_true rfl, Nat.le_of_ble_eq_true rfl⟩ ⟨Nat.le_of_ble_eq_true rfl, Nat.le_of_ble_eq_true rfl⟩ rfl rfl (Nat.le_of_ble_eq_true rfl) (mX5_pairOf l D cy kd ln rh _ c4 M9  h) dX5_numberOf_36 (fun c16 M15 g17 h => ?_)
    have h := h g17
    refine q_sipush C (by decide) dX5_numberOf_39 ?_
    refine q_imul C dX5_numberOf_42 ?_
    refine q_topi (fun v18 ev18 => ?_)
    have h := h v18 ev18
    refine q_istore (lv' := [(7, .int (gI v18)), (6, .int (gI v14)), (5, .int (gI c4)), (0, .ref (gad a0)), (1, .int (gI a1)), (2, .int (gI a2)), (3, .int (gI a3)), (4, .int (gI a4))]) C (by decide) rfl dX5_numberOf_43 ?_
    refine q_lv (lv' := [(0, .ref (gad a0)), (5, .int (gI c4)), (6, .int (gI v14)), (7, .int (gI v18))]) [3, 2, 1, 0] rfl ?_
    obtain ⟨j45, h⟩ := h
    exact t45  j45 c4 v14 v18 M15 h
  · have h := h.2 b6
    refine q_iconst C dX5_numberOf_20 ?_
    exact hret (-1) M3 _ _ dX5_numberOf_21 (show rng (-1) by decide) h
set_option maxHeartbeats 4000000 in
set_option maxRecDepth 100000 in
theorem mX6_number (l : Launch) (D : va_G) (cy : Nat → ClassId) (kd : gKd) (ln : gLn) (rh : gRh) (post : Int → gM → Prop) (px : gM → Prop) (a0 : Int) (a1 : Int) (a2 : Int) (a3 : Int) (a4 : Int) (a5 : Int) (M : gM) (hst : l.stackTraces = false) (hk0 : kd a0 = 6) (h : wX6_number kd ln post px a0 a1 a2 a3 a4 a5 M) : gTI l D cy yX6_number cX6_number 6 .int 8 143 [.ref (gad a0), .int (gI a1), .int (gI a2), .int (gI a3), .int (gI a4), .int (gI a5)] kd ln rh M post px := by
  refine gTI_of (own := RX6) (by decide) rfl (Nat.le_of_ble_eq_true rfl) hst rfl ?_
  intro p e s m args below meth c A H0 Q C hret hthr hexc
  unfold wX6_number at h
  refine q_aload_n C 0 rfl rfl dX6_number_0 ?_
  refine q_iload_n C 1 rfl rfl dX6_number_1 ?_
  refine q_iload_n C 2 rfl rfl dX6_number_2 ?_
  refine q_iload_n C 3 rfl rfl dX6_number_3 ?_
  refine q_iload C 4 rfl dX6_number_4 ?_
  refine q_iload C 5 rfl dX6_number_6 ?_
  refine q_callTR (As := [.int (gI a1), .int (gI a2), .int (gI a3), .int (gI a4), .int (gI a5)]) (st := []) C vX6_98 kX6_demandTable ⟨Nat.le_of_ble_eq_true rfl, Nat.le_of_ble_eq_true rfl⟩ ⟨Nat.le_of_ble_eq_true rfl, Nat.le_of_ble_eq_true rfl⟩ rfl hk0 ⟨_, _, rfl⟩ (by decide) rfl (Nat.le_of_ble_eq_true rfl) (mX6_demandTable l D cy kd ln rh _ _ a0 a1 a2 a3 a4 a5 M hst hk0 h) dX6_number_8 (fun M9 h => hexc M9 _ _ _ _ _ (by decide) (by decide) h) (fun c2 M1 h => ?_)
  refine q_iload_n C 2 rfl rfl dX6_number_11 ?_
  refine q_iload_n C 3 rfl rfl dX6_number_12 ?_
  refine q_iload C 4 rfl dX6_number_13 ?_
  refine q_iload C 5 rfl dX6_number_15 ?_
  obtain ⟨r4, h⟩ := h
  refine q_callVI (As := [.int (gI a2), .int (gI a3), .int (gI a4), .int (gI a5)]) (st := []) C vX6_135 kX5_numberOf ⟨Nat.le_of_ble_eq_true rfl, Nat.le_of_ble_eq_true rfl⟩ ⟨Nat.le_of_ble_eq_true rfl, Nat.le_of_ble_eq_true rfl⟩ rfl r4 ⟨_, _, rfl⟩ (by decide) rfl (Nat.le_of_ble_eq_true rfl) (mX5_numberOf l D cy kd ln rh _ c2 a2 a3 a4 a5 M1 r4 h) dX6_number_17 (fun c6 M5 g7 h => ?_)
  have h := h g7
  exact hret c6 M5 _ _ 1 6 (by decide) (by decide) dX6_number_20 g7 h
set_option maxHeartbeats 4000000 in
set_option maxRecDepth 100000 in
theorem mX7_isCanon (l : Launch) (D : va_G) (cy : Nat → ClassId) (kd : gKd) (ln : gLn) (rh : gRh) (post : Int → gM → Prop) (a0 : Int) (a1 : Int) (a2 : Int) (M : gM) (hk0 : kd a0 = 7) (h : wX7_isCanon kd ln post a0 a1 a2 M) : gMI l D cy yX7_isCanon cX7_isCanon 3 .boolean 0 0 [.ref (gad a0), .int (gI a1), .int (gI a2)] kd ln rh M post := by
  refine gMI_ofZ (own := RX7) (by decide) rfl (Nat.le_of_ble_eq_true rfl) ?_
  intro p e s m args below meth c A H0 Q C hret
  unfold wX7_isCanon at h
  refine q_aload_n C 0 rfl rfl dX7_isCanon_0 ?_
  obtain ⟨r1, h⟩ := h
  refine q_get (v := .ref (rh a0 5)) C fX7_26 hk0 (if_neg (Int.not_lt.mpr r1)) dX7_isCanon_1 (fun g2 => ?_)
  refine q_sipush C (by decide) dX7_isCanon_4 ?_
  refine q_iload_n C 1 rfl rfl dX7_isCanon_7 ?_
  refine q_imul C dX7_isCanon_8 ?_
  refine q_iload_n C 2 rfl rfl dX7_isCanon_9 ?_
  refine q_iconst C dX7_isCanon_10 ?_
  refine q_ishr C dX7_isCanon_11 ?_
  refine q_iadd C dX7_isCanon_12 ?_
  obtain ⟨r3, h⟩ := h
  refine q_iald C hk0 rfl (fun _ q => q) r3 dX7_isCanon_13 (fun g4 => ?_)
  have h := h g4
  refine q_iload_n C 2 rfl rfl dX7_isCanon_14 ?_
  refine q_bipush C (by decide) dX7_isCanon_15 ?_
  refine q_iand C dX7_isCanon_17 ?_
  refine q_ishr C dX7_isCanon_18 ?_
  refine q_iconst C dX7_isCanon_19 ?_
  refine q_iand C dX7_isCanon_20 ?_
  obtain ⟨r5, h⟩ := h
  refine q_if_eq (tgt := 28) C r5 (by decide) dX7_isCanon_21 (fun b6 => ?_) (fun b6 => ?_)
  · have h := h.1 b6
    refine q_iconst C dX7_isCanon_28 ?_
    exact hret 0 M _ _ dX7_isCanon_29 (Or.inl rfl) h
  · have h := h.2 b6
    refine q_iconst C dX7_isCanon_24 ?_
    refine q_goto (tgt := 29) C (by decide) dX7_isCanon_25 ?_
    exact hret 1 M _ _ dX7_isCanon_29 (Or.inr rfl) h
set_option maxHeartbeats 4000000 in
set_option maxRecDepth 100000 in
theorem mX7_numberOf (l : Launch) (D : va_G) (cy : Nat → ClassId) (kd : gKd) (ln : gLn) (rh : gRh) (post : Int → gM → Prop) (a0 : Int) (a1 : Int) (a2 : Int) (M : gM) (hk0 : kd a0 = 7) (h : wX7_numberOf kd ln post a0 a1 a2 M) : gMI l D cy yX7_numberOf cX7_numberOf 5 .int 1 22 [.ref (gad a0), .int (gI a1), .int (gI a2)] kd ln rh M post := by
  refine gMI_of (own := RX7) (by decide) rfl (Nat.le_of_ble_eq_true rfl) ?_
  intro p e s m args below meth c A H0 Q C hret
  have t43 : ∀ (k21 : Int → Int → gM → Prop), (∀ (x3 : Int), ∀ (x4 : Int), ∀ (M : gM), k21 x3 x4 M → gW p l e (gRm 1 22) s m args below meth c D cy A H0 Q 5 kd ln rh 0 0 M 21 [(0, .ref (gad a0)), (1, .int (gI a1)), (2, .int (gI a2)), (3, .int (gI x3)), (4, .int (gI x4))] []) → ∀ (x4 : Int) (y0 : Int) (y1 : Int) (M : gM), wX7_numberOf_43 kd ln post a0 a1 a2 k21 x4 y0 y1 M → gW p l e (gRm 1 22) s m args below meth c D cy A H0 Q 5 kd ln rh 0 0 M 43 [(0, .ref (gad a0)), (1, .int (gI a1)), (2, .int (gI a2)), (4, .int (gI x4))] [.int (gI y0), .int (gI y1)] := by
    intro k21 hk21_ x4 y0 y1 M h
    unfold wX7_numberOf_43 at h
    refine q_iadd C dX7_numberOf_43 ?_
    refine q_topi (fun v15 ev15 => ?_)
    have h := h v15 ev15
    refine q_istore_n (lv' := [(3, .int (gI v15)), (0, .ref (gad a0)), (1, .int (gI a1)), (2, .int (gI a2)), (4, .int (gI x4))]) C rfl (by decide) rfl dX7_numberOf_44 ?_
    refine q_iinc (lv' := [(4, .int (gI (x4 + 1))), (3, .int (gI v15)), (0, .ref (gad a0)), (1, .int (gI a1)), (2, .int (gI a2))]) C 4 rfl (by decide) rfl dX7_numberOf_45 ?_
    refine q_goto (tgt := 21) C (by decide) dX7_numberOf_48 ?_
    refine q_lv (lv' := [(0, .ref (gad a0)), (1, .int (gI a1)), (2, .int (gI a2)), (3, .int (gI v15)), (4, .int (gI (x4 + 1)))]) [2, 3, 4, 1, 0] rfl ?_
    exact hk21_ v15 (x4 + 1) M h
  have t21 : ∀ (n : Nat) (x3 : Int) (x4 : Int) (M : gM), wX7_numberOf_21 kd ln post a0 a1 a2 n x3 x4 M → gW p l e (gRm 1 22) s m args below meth c D cy A H0 Q 5 kd ln rh 0 0 M 21 [(0, .ref (gad a0)), (1, .int (gI a1)), (2, .int (gI a2)), (3, .int (gI x3)), (4, .int (gI x4))] [] := by
    intro n
    induction n with
    | zero => intro x3 x4 M h; exact absurd h (by simp [wX7_numberOf_21])
    | succ n ih =>
      intro x3 x4 M h
      have hk21_ := ih
      rw [wX7_numberOf_21] at h
      refine q_iload C 4 rfl dX7_numberOf_21 ?_
      refine q_iload_n C 2 rfl rfl dX7_numberOf_23 ?_
      obtain ⟨r7, h⟩ := h
      obtain ⟨r8, h⟩ := h
      refine q_icmp_ge (tgt := 51) C r7 r8 (by decide) dX7_numberOf_24 (fun b9 => ?_) (fun b9 => ?_)
      · have h := h.1 b9
        refine q_iload_n C 3 rfl rfl dX7_numberOf_51 ?_
        obtain ⟨r10, h⟩ := h
        exact hret x3 M _ _ dX7_numberOf_52 r10 h
      · have h := h.2 b9
        refine q_iload_n C 3 rfl rfl dX7_numberOf_27 ?_
        refine q_aload_n C 0 rfl rfl dX7_numberOf_28 ?_
        refine q_iload_n C 1 rfl rfl dX7_numberOf_29 ?_
        refine q_iload C 4 rfl dX7_numberOf_30 ?_
        refine q_callVI (As := [.int (gI a1), .int (gI x4)]) (st := [.int (gI x3)]) C vX7_176 kX7_isCanon ⟨Nat.le_of_ble_eq_true rfl, Nat.le_of_ble_eq_true rfl⟩ ⟨Nat.le_of_ble_eq_true rfl, Nat.le_of_ble_eq_true rfl⟩ rfl hk0 ⟨_, _, rfl⟩ (by decide) rfl (Nat.le_of_ble_eq_true rfl) (mX7_isCanon l D cy kd ln rh _ a0 a1 x4 M hk0 h) dX7_numberOf_32 (fun c12 M11 g13 h => ?_)
        have h := h g13
        refine q_if_eq (tgt := 42) C g13 (by decide) dX7_numberOf_35 (fun b14 => ?_) (fun b14 => ?_)
        · have h := h.1 b14
          refine q_iconst C dX7_numberOf_42 ?_
          refine q_lv (lv' := [(0, .ref (gad a0)), (1, .int (gI a1)), (2, .int (gI a2)), (4, .int (gI x4))]) [0, 1, 2, 4] rfl ?_
          exact t43 (wX7_numberOf_21 kd ln post a0 a1 a2 n) hk21_ x4 0 x3 M11 h
        · have h := h.2 b14
          refine q_iconst C dX7_numberOf_38 ?_
          refine q_goto (tgt := 43) C (by decide) dX7_numberOf_39 ?_
          refine q_lv (lv' := [(0, .ref (gad a0)), (1, .int (gI a1)), (2, .int (gI a2)), (4, .int (gI x4))]) [0, 1, 2, 4] rfl ?_
          exact t43 (wX7_numberOf_21 kd ln post a0 a1 a2 n) hk21_ x4 1 x3 M11 h
  unfold wX7_numberOf at h
  refine q_aload_n C 0 rfl rfl dX7_numberOf_0 ?_
  obtain ⟨r1, h⟩ := h
  refine q_get (v := .ref (rh a0 6)) C fX7_30 hk0 (if_neg (Int.not_lt.mpr r1)) dX7_numberOf_1 (fun g2 => ?_)
  refine q_sipush C (by decide) dX7_numberOf_4 ?_
  refine q_iload_n C 1 rfl rfl dX7_numberOf_7 ?_
  refine q_imul C dX7_numberOf_8 ?_
  refine q_iload_n C 2 rfl rfl dX7_numberOf_9 ?_
  refine q_iconst C dX7_numberOf_10 ?_
  refine q_ishr C dX7_numberOf_11 ?_
  refine q_iadd C dX7_numberOf_12 ?_
  obtain ⟨r3, h⟩ := h
  refine q_iald C hk0 rfl (fun _ q => q) r3 dX7_numberOf_13 (fun g4 => ?_)
  have h := h g4
  refine q_topi (fun v5 ev5 => ?_)
  have h := h v5 ev5
  have gv5 : rng v5 := by rw [ev5]; exact g4
  refine q_istore_n (lv' := [(3, .int (gI v5)), (0, .ref (gad a0)), (1, .int (gI a1)), (2, .int (gI a2))]) C rfl (by decide) rfl dX7_numberOf_14 ?_
  refine q_iload_n C 3 rfl rfl dX7_numberOf_15 ?_
  refine q_bipush C (by decide) dX7_numberOf_16 ?_
  refine q_iand C dX7_numberOf_18 ?_
  refine q_topi (fun v6 ev6 => ?_)
  have h := h v6 ev6
  refine q_istore (lv' := [(4, .int (gI v6)), (3, .int (gI v5)), (0, .ref (gad a0)), (1, .int (gI a1)), (2, .int (gI a2))]) C (by decide) rfl dX7_numberOf_19 ?_
  refine q_lv (lv' := [(0, .ref (gad a0)), (1, .int (gI a1)), (2, .int (gI a2)), (3, .int (gI v5)), (4, .int (gI v6))]) [2, 3, 4, 1, 0] rfl ?_
  obtain ⟨j21, h⟩ := h
  exact t21  j21 v5 v6 M h
set_option maxHeartbeats 4000000 in
set_option maxRecDepth 100000 in
theorem mX7_number (l : Launch) (D : va_G) (cy : Nat → ClassId) (kd : gKd) (ln : gLn) (rh : gRh) (post : Int → gM → Prop) (a0 : Int) (a1 : Int) (a2 : Int) (a3 : Int) (a4 : Int) (a5 : Int) (M : gM) (hk0 : kd a0 = 7) (h : wX7_number kd ln post a0 a1 a2 a3 a4 a5 M) : gMI l D cy yX7_number cX7_number 6 .int 5 125 [.ref (gad a0), .int (gI a1), .int (gI a2), .int (gI a3), .int (gI a4), .int (gI a5)] kd ln rh M post := by
  refine gMI_of (own := RX7) (by decide) rfl (Nat.le_of_ble_eq_true rfl) ?_
  intro p e s m args below meth c A H0 Q C hret
  unfold wX7_number at h
  refine q_aload_n C 0 rfl rfl dX7_number_0 ?_
  refine q_iload_n C 1 rfl rfl dX7_number_1 ?_
  refine q_iload_n C 2 rfl rfl dX7_number_2 ?_
  refine q_iload_n C 3 rfl rfl dX7_number_3 ?_
  refine q_iload C 4 rfl dX7_number_4 ?_
  refine q_iload C 5 rfl dX7_number_6 ?_
  refine q_callVI (As := [.int (gI a1), .int (gI a2), .int (gI a3), .int (gI a4), .int (gI a5)]) (st := []) C vX7_190 kX7_mayAsk ⟨Nat.le_of_ble_eq_true rfl, Nat.le_of_ble_eq_true rfl⟩ ⟨Nat.le_of_ble_eq_true rfl, Nat.le_of_ble_eq_true rfl⟩ rfl hk0 ⟨_, _, rfl⟩ (by decide) rfl (Nat.le_of_ble_eq_true rfl) (mX7_mayAsk l D cy kd ln rh _ a0 a1 a2 a3 a4 a5 M hk0 h) dX7_number_8 (fun c2 M1 g3 h => ?_)
  have h := h g3
  refine q_if_ne (tgt := 16) C g3 (by decide) dX7_number_11 (fun b4 => ?_) (fun b4 => ?_)
  · have h := h.1 b4
    refine q_aload_n C 0 rfl rfl dX7_number_16 ?_
    refine q_iload_n C 1 rfl rfl dX7_number_17 ?_
    refine q_aload_n C 0 rfl rfl dX7_number_18 ?_
    refine q_iload_n C 1 rfl rfl dX7_number_19 ?_
    refine q_iload_n C 2 rfl rfl dX7_number_20 ?_
    refine q_iload_n C 3 rfl rfl dX7_number_21 ?_
    refine q_iload C 4 rfl dX7_number_22 ?_
    refine q_iload C 5 rfl dX7_number_24 ?_
    refine q_callVI (As := [.int (gI a1), .int (gI a2), .int (gI a3), .int (gI a4), .int (gI a5)]) (st := [.int (gI a1), .ref (gad a0)]) C vX7_173 kX7_least ⟨Nat.le_of_ble_eq_true rfl, Nat.le_of_ble_eq_true rfl⟩ ⟨Nat.le_of_ble_eq_true rfl, Nat.le_of_ble_eq_true rfl⟩ rfl hk0 ⟨_, _, rfl⟩ (by decide) rfl (Nat.le_of_ble_eq_true rfl) (mX7_least l D cy kd ln rh _ a0 a1 a2 a3 a4 a5 M1 hk0 h) dX7_number_26 (fun c6 M5 g7 h => ?_)
    have h := h g7
    refine q_callVI (As := [.int (gI a1), .int (gI c6)]) (st := []) C vX7_202 kX7_numberOf ⟨Nat.le_of_ble_eq_true rfl, Nat.le_of_ble_eq_true rfl⟩ ⟨Nat.le_of_ble_eq_true rfl, Nat.le_of_ble_eq_true rfl⟩ rfl hk0 ⟨_, _, rfl⟩ (by decide) rfl (Nat.le_of_ble_eq_true rfl) (mX7_numberOf l D cy kd ln rh _ a0 a1 c6 M5 hk0 h) dX7_number_29 (fun c9 M8 g10 h => ?_)
    have h := h g10
    exact hret c9 M8 _ _ dX7_number_32 g10 h
  · have h := h.2 b4
    refine q_iconst C dX7_number_14 ?_
    exact hret 0 M1 _ _ dX7_number_15 (show rng 0 by decide) h
set_option maxHeartbeats 4000000 in
set_option maxRecDepth 100000 in
theorem mX5_pairWith (l : Launch) (D : va_G) (cy : Nat → ClassId) (kd : gKd) (ln : gLn) (rh : gRh) (post : Int → gM → Prop) (a0 : Int) (a1 : Int) (M : gM) (hk0 : kd a0 = 5) (h : wX5_pairWith kd ln post a0 a1 M) : gMI l D cy yX5_pairWith cX5_pairWith 5 .int 0 0 [.ref (gad a0), .int (gI a1)] kd ln rh M post := by
  refine gMI_of (own := RX5) (by decide) rfl (Nat.le_of_ble_eq_true rfl) ?_
  intro p e s m args below meth c A H0 Q C hret
  have t48 : ∀ (k12 : Int → Int → gM → Prop), (∀ (x2 : Int), ∀ (x3 : Int), ∀ (M : gM), k12 x2 x3 M → gW p l e (gRm 0 0) s m args below meth c D cy A H0 Q 5 kd ln rh 0 0 M 12 [(0, .ref (gad a0)), (1, .int (gI a1)), (2, .int (gI x2)), (3, .int (gI x3))] []) → ∀ (x2 : Int) (x3 : Int) (M : gM), wX5_pairWith_48 kd ln post a0 a1 k12 x2 x3 M → gW p l e (gRm 0 0) s m args below meth c D cy A H0 Q 5 kd ln rh 0 0 M 48 [(0, .ref (gad a0)), (1, .int (gI a1)), (2, .int (gI x2)), (3, .int (gI x3))] [] := by
    intro k12 hk12_ x2 x3 M h
    unfold wX5_pairWith_48 at h
    refine q_goto (tgt := 12) C (by decide) dX5_pairWith_48 ?_
    exact hk12_ x2 x3 M h
  have t12 : ∀ (n : Nat) (x2 : Int) (x3 : Int) (M : gM), wX5_pairWith_12 kd ln post a0 a1 n x2 x3 M → gW p l e (gRm 0 0) s m args below meth c D cy A H0 Q 5 kd ln rh 0 0 M 12 [(0, .ref (gad a0)), (1, .int (gI a1)), (2, .int (gI x2)), (3, .int (gI x3))] [] := by
    intro n
    induction n with
    | zero => intro x2 x3 M h; exact absurd h (by simp [wX5_pairWith_12])
    | succ n ih =>
      intro x2 x3 M h
      have hk12_ := ih
      rw [wX5_pairWith_12] at h
      refine q_iload_n C 2 rfl rfl dX5_pairWith_12 ?_
      refine q_iload_n C 3 rfl rfl dX5_pairWith_13 ?_
      obtain ⟨r5, h⟩ := h
      obtain ⟨r6, h⟩ := h
      refine q_icmp_ge (tgt := 51) C r5 r6 (by decide) dX5_pairWith_14 (fun b7 => ?_) (fun b7 => ?_)
      · have h := h.1 b7
        refine q_iload_n C 2 rfl rfl dX5_pairWith_51 ?_
        exact hret x2 M _ _ dX5_pairWith_52 r5 h
      · have h := h.2 b7
        refine q_iload_n C 2 rfl rfl dX5_pairWith_17 ?_
        refine q_iload_n C 3 rfl rfl dX5_pairWith_18 ?_
        refine q_iadd C dX5_pairWith_19 ?_
        refine q_iconst C dX5_pairWith_20 ?_
        refine q_iadd C dX5_pairWith_21 ?_
        refine q_iconst C dX5_pairWith_22 ?_
        obtain ⟨r8, h⟩ := h
        refine q_idiv C ⟨r8.1, r8.2, by decide, by decide⟩ dX5_pairWith_23 ?_
        refine q_topi (fun v9 ev9 => ?_)
        have h := h v9 ev9
        refine q_istore (lv' := [(4, .int (gI v9)), (0, .ref (gad a0)), (1, .int (gI a1)), (2, .int (gI x2)), (3, .int (gI x3))]) C (by decide) rfl dX5_pairWith_24 ?_
        refine q_aload_n C 1 rfl rfl dX5_pairWith_26 ?_
        obtain ⟨r10, h⟩ := h
        refine q_get (v := .ref (rh a0 9)) C fX5_54 hk0 (if_neg (Int.not_lt.mpr r10)) dX5_pairWith_27 (fun g11 => ?_)
        refine q_iload C 0 rfl dX5_pairWith_30 ?_
        obtain ⟨r12, h⟩ := h
        refine q_iald C hk0 rfl (fun _ q => q) r12 dX5_pairWith_32 (fun g13 => ?_)
        have h := h g13
        refine q_iload_n C 2 rfl rfl dX5_pairWith_33 ?_
        obtain ⟨r14, h⟩ := h
        refine q_icmp_gt (tgt := 43) C g13 r14 (by decide) dX5_pairWith_34 (fun b15 => ?_) (fun b15 => ?_)
        · have h := h.1 b15
          refine q_iload C 0 rfl dX5_pairWith_43 ?_
          refine q_iconst C dX5_pairWith_45 ?_
          refine q_isub C dX5_pairWith_46 ?_
          refine q_topi (fun v16 ev16 => ?_)
          have h := h v16 ev16
          refine q_istore_n (lv' := [(3, .int (gI v16)), (4, .int (gI v9)), (0, .ref (gad a0)), (1, .int (gI a1)), (2, .int (gI x2))]) C rfl (by decide) rfl dX5_pairWith_47 ?_
          refine q_lv (lv' := [(0, .ref (gad a0)), (1, .int (gI a1)), (2, .int (gI x2)), (3, .int (gI v16))]) [2, 3, 4, 0] rfl ?_
          exact t48 (wX5_pairWith_12 kd ln post a0 a1 n) hk12_ x2 v16 M h
        · have h := h.2 b15
          refine q_iload C 0 rfl dX5_pairWith_37 ?_
          refine q_istore_n (lv' := [(2, .int (gI v9)), (4, .int (gI v9)), (0, .ref (gad a0)), (1, .int (gI a1)), (3, .int (gI x3))]) C rfl (by decide) rfl dX5_pairWith_39 ?_
          refine q_goto (tgt := 48) C (by decide) dX5_pairWith_40 ?_
          refine q_lv (lv' := [(0, .ref (gad a0)), (1, .int (gI a1)), (2, .int (gI v9)), (3, .int (gI x3))]) [2, 3, 0, 4] rfl ?_
          exact t48 (wX5_pairWith_12 kd ln post a0 a1 n) hk12_ v9 x3 M h
  unfold wX5_pairWith at h
  refine q_iconst C dX5_pairWith_0 ?_
  refine q_istore_n (lv' := [(2, .int (gI 0)), (0, .ref (gad a0)), (1, .int (gI a1))]) C rfl (by decide) rfl dX5_pairWith_1 ?_
  refine q_aload_n C 1 rfl rfl dX5_pairWith_2 ?_
  refine q_get (v := gR (M a0 2 (-1))) C fX5_35 hk0 rfl dX5_pairWith_3 (fun g1 => ?_)
  obtain ⟨r2, h⟩ := h
  refine q_nn r2 (by decide) ?_
  refine q_get (v := .int (gI (M (M a0 2 (-1)) 0 (-1)))) C fX5_39 r2 rfl dX5_pairWith_6 (fun g3 => ?_)
  have h := h g3
  refine q_iconst C dX5_pairWith_9 ?_
  refine q_isub C dX5_pairWith_10 ?_
  refine q_topi (fun v4 ev4 => ?_)
  have h := h v4 ev4
  refine q_istore_n (lv' := [(3, .int (gI v4)), (2, .int (gI 0)), (0, .ref (gad a0)), (1, .int (gI a1))]) C rfl (by decide) rfl dX5_pairWith_11 ?_
  refine q_lv (lv' := [(0, .ref (gad a0)), (1, .int (gI a1)), (2, .int (gI 0)), (3, .int (gI v4))]) [2, 3, 1, 0] rfl ?_
  obtain ⟨j12, h⟩ := h
  exact t12  j12 0 v4 M h
set_option maxHeartbeats 4000000 in
set_option maxRecDepth 100000 in
theorem mX5_cellNumbered (l : Launch) (D : va_G) (cy : Nat → ClassId) (kd : gKd) (ln : gLn) (rh : gRh) (post : Int → gM → Prop) (a0 : Int) (a1 : Int) (M : gM) (hk0 : kd a0 = 5) (h : wX5_cellNumbered kd ln post a0 a1 M) : gMI l D cy yX5_cellNumbered cX5_cellNumbered 5 .int 1 24 [.ref (gad a0), .int (gI a1)] kd ln rh M post := by
  refine gMI_of (own := RX5) (by decide) rfl (Nat.le_of_ble_eq_true rfl) ?_
  intro p e s m args below meth c A H0 Q C hret
  have t66 : ∀ (k36 : Int → Int → Int → gM → Prop), (∀ (x2 : Int), ∀ (x3 : Int), ∀ (x4 : Int), ∀ (M : gM), k36 x2 x3 x4 M → gW p l e (gRm 1 24) s m args below meth c D cy A H0 Q 5 kd ln rh 0 0 M 36 [(0, .ref (gad a0)), (2, .int (gI x2)), (3, .int (gI x3)), (4, .int (gI x4))] []) → ∀ (x2 : Int) (x4 : Int) (y0 : Int) (y1 : Int) (M : gM), wX5_cellNumbered_66 kd ln post a0 a1 k36 x2 x4 y0 y1 M → gW p l e (gRm 1 24) s m args below meth c D cy A H0 Q 5 kd ln rh 0 0 M 66 [(0, .ref (gad a0)), (2, .int (gI x2)), (4, .int (gI x4))] [.int (gI y0), .int (gI y1)] := by
    intro k36 hk36_ x2 x4 y0 y1 M h
    unfold wX5_cellNumbered_66 at h
    refine q_isub C dX5_cellNumbered_66 ?_
    refine q_topi (fun v24 ev24 => ?_)
    have h := h v24 ev24
    refine q_istore_n (lv' := [(3, .int (gI v24)), (0, .ref (gad a0)), (2, .int (gI x2)), (4, .int (gI x4))]) C rfl (by decide) rfl dX5_cellNumbered_67 ?_
    refine q_iload_n C 0 rfl rfl dX5_cellNumbered_68 ?_
    obtain ⟨r25, h⟩ := h
    refine q_if_ge (tgt := 75) C r25 (by decide) dX5_cellNumbered_69 (fun b26 => ?_) (fun b26 => ?_)
    · have h := h.1 b26
      refine q_iinc (lv' := [(4, .int (gI (x4 + 1))), (3, .int (gI v24)), (0, .ref (gad a0)), (2, .int (gI x2))]) C 3 rfl (by decide) rfl dX5_cellNumbered_75 ?_
      refine q_goto (tgt := 36) C (by decide) dX5_cellNumbered_78 ?_
      refine q_lv (lv' := [(0, .ref (gad a0)), (2, .int (gI x2)), (3, .int (gI v24)), (4, .int (gI (x4 + 1)))]) [2, 3, 1, 0] rfl ?_
      exact hk36_ x2 v24 (x4 + 1) M h
    · have h := h.2 b26
      refine q_iload C 3 rfl dX5_cellNumbered_72 ?_
      obtain ⟨r27, h⟩ := h
      exact hret x4 M _ _ dX5_cellNumbered_74 r27 h
  have t36 : ∀ (n : Nat) (x2 : Int) (x3 : Int) (x4 : Int) (M : gM), wX5_cellNumbered_36 kd ln post a0 a1 n x2 x3 x4 M → gW p l e (gRm 1 24) s m args below meth c D cy A H0 Q 5 kd ln rh 0 0 M 36 [(0, .ref (gad a0)), (2, .int (gI x2)), (3, .int (gI x3)), (4, .int (gI x4))] [] := by
    intro n
    induction n with
    | zero => intro x2 x3 x4 M h; exact absurd h (by simp [wX5_cellNumbered_36])
    | succ n ih =>
      intro x2 x3 x4 M h
      have hk36_ := ih
      rw [wX5_cellNumbered_36] at h
      refine q_iload C 3 rfl dX5_cellNumbered_36 ?_
      refine q_iload_n C 1 rfl rfl dX5_cellNumbered_38 ?_
      refine q_iconst C dX5_cellNumbered_39 ?_
      refine q_iadd C dX5_cellNumbered_40 ?_
      refine q_sipush C (by decide) dX5_cellNumbered_41 ?_
      refine q_imul C dX5_cellNumbered_44 ?_
      obtain ⟨r16, h⟩ := h
      obtain ⟨r17, h⟩ := h
      refine q_icmp_ge (tgt := 81) C r16 r17 (by decide) dX5_cellNumbered_45 (fun b18 => ?_) (fun b18 => ?_)
      · have h := h.1 b18
        refine q_iconst C dX5_cellNumbered_81 ?_
        exact hret (-1) M _ _ dX5_cellNumbered_82 (show rng (-1) by decide) h
      · have h := h.2 b18
        refine q_iload_n C 2 rfl rfl dX5_cellNumbered_48 ?_
        refine q_aload_n C 0 rfl rfl dX5_cellNumbered_49 ?_
        obtain ⟨r19, h⟩ := h
        refine q_get (v := .ref (rh a0 1)) C fX5_44 hk0 (if_neg (Int.not_lt.mpr r19)) dX5_cellNumbered_50 (fun g20 => ?_)
        refine q_iload C 3 rfl dX5_cellNumbered_53 ?_
        obtain ⟨r21, h⟩ := h
        refine q_bald C hk0 rfl (fun _ q => q) r21 dX5_cellNumbered_55 (fun g22 => ?_)
        have h := h g22
        refine q_bipush C (by decide) dX5_cellNumbered_56 ?_
        refine q_icmp_eq (tgt := 65) C g22 (show rng (-2) by decide) (by decide) dX5_cellNumbered_58 (fun b23 => ?_) (fun b23 => ?_)
        · have h := h.1 b23
          refine q_iconst C dX5_cellNumbered_65 ?_
          refine q_lv (lv' := [(0, .ref (gad a0)), (2, .int (gI x2)), (4, .int (gI x4))]) [0, 1, 3] rfl ?_
          exact t66 (wX5_cellNumbered_36 kd ln post a0 a1 n) hk36_ x2 x4 0 x3 M h
        · have h := h.2 b23
          refine q_iconst C dX5_cellNumbered_61 ?_
          refine q_goto (tgt := 66) C (by decide) dX5_cellNumbered_62 ?_
          refine q_lv (lv' := [(0, .ref (gad a0)), (2, .int (gI x2)), (4, .int (gI x4))]) [0, 1, 3] rfl ?_
          exact t66 (wX5_cellNumbered_36 kd ln post a0 a1 n) hk36_ x2 x4 1 x3 M h
  unfold wX5_cellNumbered at h
  refine q_iload_n C 1 rfl rfl dX5_cellNumbered_0 ?_
  obtain ⟨r1, h⟩ := h
  refine q_if_lt (tgt := 12) C r1 (by decide) dX5_cellNumbered_1 (fun b2 => ?_) (fun b2 => ?_)
  · have h := h.1 b2
    refine q_iconst C dX5_cellNumbered_12 ?_
    exact hret (-1) M _ _ dX5_cellNumbered_13 (show rng (-1) by decide) h
  · have h := h.2 b2
    refine q_iload_n C 1 rfl rfl dX5_cellNumbered_4 ?_
    refine q_aload_n C 0 rfl rfl dX5_cellNumbered_5 ?_
    refine q_callVI (As := []) (st := [.int (gI a1)]) C vX5_101 kX5_size ⟨Nat.le_of_ble_eq_true rfl, Nat.le_of_ble_eq_true rfl⟩ ⟨Nat.le_of_ble_eq_true rfl, Nat.le_of_ble_eq_true rfl⟩ rfl hk0 ⟨_, _, rfl⟩ (by decide) rfl (Nat.le_of_ble_eq_true rfl) (mX5_size l D cy kd ln rh _ a0 M hk0 h) dX5_cellNumbered_6 (fun c4 M3 g5 h => ?_)
    have h := h g5
    refine q_icmp_lt (tgt := 14) C r1 g5 (by decide) dX5_cellNumbered_9 (fun b6 => ?_) (fun b6 => ?_)
    · have h := h.1 b6
      refine q_aload_n C 0 rfl rfl dX5_cellNumbered_14 ?_
      refine q_iload_n C 1 rfl rfl dX5_cellNumbered_15 ?_
      refine q_callVI (As := [.int (gI a1)]) (st := []) C vX5_104 kX5_pairWith ⟨Nat.le_of_ble_eq_true rfl, Nat.le_of_ble_eq_true rfl⟩ ⟨Nat.le_of_ble_eq_true rfl, Nat.le_of_ble_eq_true rfl⟩ rfl hk0 ⟨_, _, rfl⟩ (by decide) rfl (Nat.le_of_ble_eq_true rfl) (mX5_pairWith l D cy kd ln rh _ a0 a1 M3 hk0 h) dX5_cellNumbered_16 (fun c8 M7 g9 h => ?_)
      have h := h g9
      refine q_istore_n (lv' := [(2, .int (gI c8)), (0, .ref (gad a0)), (1, .int (gI a1))]) C rfl (by decide) rfl dX5_cellNumbered_19 ?_
      refine q_iload_n C 2 rfl rfl dX5_cellNumbered_20 ?_
      refine q_aload_n C 1 rfl rfl dX5_cellNumbered_21 ?_
      obtain ⟨r10, h⟩ := h
      refine q_get (v := .ref (rh a0 9)) C fX5_54 hk0 (if_neg (Int.not_lt.mpr r10)) dX5_cellNumbered_22 (fun g11 => ?_)
      refine q_iload_n C 0 rfl rfl dX5_cellNumbered_25 ?_
      obtain ⟨r12, h⟩ := h
      refine q_iald C hk0 rfl (fun _ q => q) r12 dX5_cellNumbered_26 (fun g13 => ?_)
      have h := h g13
      refine q_isub C dX5_cellNumbered_27 ?_
      refine q_topi (fun v14 ev14 => ?_)
      have h := h v14 ev14
      refine q_istore_n (lv' := [(3, .int (gI v14)), (2, .int (gI c8)), (0, .ref (gad a0)), (1, .int (gI a1))]) C rfl (by decide) rfl dX5_cellNumbered_28 ?_
      refine q_iload_n C 1 rfl rfl dX5_cellNumbered_29 ?_
      refine q_sipush C (by decide) dX5_cellNumbered_30 ?_
      refine q_imul C dX5_cellNumbered_33 ?_
      refine q_topi (fun v15 ev15 => ?_)
      have h := h v15 ev15
      refine q_istore (lv' := [(4, .int (gI v15)), (3, .int (gI v14)), (2, .int (gI c8)), (0, .ref (gad a0)), (1, .int (gI a1))]) C (by decide) rfl dX5_cellNumbered_34 ?_
      refine q_lv (lv' := [(0, .ref (gad a0)), (2, .int (gI c8)), (3, .int (gI v14)), (4, .int (gI v15))]) [3, 2, 1, 0] rfl ?_
      obtain ⟨j36, h⟩ := h
      exact t36  j36 c8 v14 v15 M7 h
    · have h := h.2 b6
      refine q_iconst C dX5_cellNumbered_12 ?_
      exact hret (-1) M3 _ _ dX5_cellNumbered_13 (show rng (-1) by decide) h
set_option maxHeartbeats 4000000 in
set_option maxRecDepth 100000 in
theorem mX5_tell (l : Launch) (D : va_G) (cy : Nat → ClassId) (kd : gKd) (ln : gLn) (rh : gRh) (post : Int → gM → Prop) (a0 : Int) (a1 : Int) (a2 : Int) (M : gM) (hk0 : kd a0 = 5) (h : wX5_tell kd ln post a0 a1 a2 M) : gMI l D cy yX5_tell cX5_tell 3 .int 1 20 [.ref (gad a0), .int (gI a1), .int (gI a2)] kd ln rh M post := by
  refine gMI_of (own := RX5) (by decide) rfl (Nat.le_of_ble_eq_true rfl) ?_
  intro p e s m args below meth c A H0 Q C hret
  unfold wX5_tell at h
  refine q_iload_n C 2 rfl rfl dX5_tell_0 ?_
  obtain ⟨r1, h⟩ := h
  rcases (show (a2 < 0 ∨ 4 < a2) ∨ a2 = 0 ∨ a2 = 1 ∨ a2 = 2 ∨ a2 = 3 ∨ a2 = 4 by omega) with b2 | b2 | b2 | b2 | b2 | b2
  · have h := h.1 b2
    refine q_tswOut (tgt := 79) C r1 b2 (by decide) dX5_tell_1 ?_
    refine q_iconst C dX5_tell_79 ?_
    exact hret (-1) M _ _ dX5_tell_80 (show rng (-1) by decide) h
  · have h := h.2.1 b2
    refine q_tswIn (tgt := 36) (off := 35) C r1 (by omega) (by omega) (by rw [b2]; rfl) (by decide) dX5_tell_1 ?_
    refine q_aload_n C 0 rfl rfl dX5_tell_36 ?_
    refine q_get (v := gR (M a0 2 (-1))) C fX5_35 hk0 rfl dX5_tell_37 (fun g3 => ?_)
    obtain ⟨r4, h⟩ := h
    refine q_nn r4 (by decide) ?_
    obtain ⟨r5, h⟩ := h
    refine q_get (v := .ref (rh (M a0 2 (-1)) 1)) C fX5_61 r4 (if_neg (Int.not_lt.mpr r5)) dX5_tell_40 (fun g6 => ?_)
    refine q_iload_n C 1 rfl rfl dX5_tell_43 ?_
    refine q_callSI (As := [.int (gI a1)]) (st := [.ref (rh (M a0 2 (-1)) 1)]) C vX5_98 kX5_pairOf ⟨Nat.le_of_ble_eq_true rfl, Nat.le_of_ble_eq_true rfl⟩ ⟨Nat.le_of_ble_eq_true rfl, Nat.le_of_ble_eq_true rfl⟩ rfl rfl (Nat.le_of_ble_eq_true rfl) (mX5_pairOf l D cy kd ln rh _ a1 M  h) dX5_tell_44 (fun c8 M7 g9 h => ?_)
    have h := h g9
    obtain ⟨r10, h⟩ := h
    refine q_iald C r4 rfl (fun _ q => q) r10 dX5_tell_47 (fun g11 => ?_)
    have h := h g11
    exact hret (M7 (M a0 2 (-1)) 1 c8) M7 _ _ dX5_tell_48 g11 h
  · have h := h.2.2.1 b2
    refine q_tswIn (tgt := 49) (off := 48) C r1 (by omega) (by omega) (by rw [b2]; rfl) (by decide) dX5_tell_1 ?_
    refine q_aload_n C 0 rfl rfl dX5_tell_49 ?_
    refine q_get (v := gR (M a0 2 (-1))) C fX5_35 hk0 rfl dX5_tell_50 (fun g12 => ?_)
    obtain ⟨r13, h⟩ := h
    refine q_nn r13 (by decide) ?_
    obtain ⟨r14, h⟩ := h
    refine q_get (v := .ref (rh (M a0 2 (-1)) 2)) C fX5_64 r13 (if_neg (Int.not_lt.mpr r14)) dX5_tell_53 (fun g15 => ?_)
    refine q_iload_n C 1 rfl rfl dX5_tell_56 ?_
    refine q_callSI (As := [.int (gI a1)]) (st := [.ref (rh (M a0 2 (-1)) 2)]) C vX5_98 kX5_pairOf ⟨Nat.le_of_ble_eq_true rfl, Nat.le_of_ble_eq_true rfl⟩ ⟨Nat.le_of_ble_eq_true rfl, Nat.le_of_ble_eq_true rfl⟩ rfl rfl (Nat.le_of_ble_eq_true rfl) (mX5_pairOf l D cy kd ln rh _ a1 M  h) dX5_tell_57 (fun c17 M16 g18 h => ?_)
    have h := h g18
    obtain ⟨r19, h⟩ := h
    refine q_iald C r13 rfl (fun _ q => q) r19 dX5_tell_60 (fun g20 => ?_)
    have h := h g20
    exact hret (M16 (M a0 2 (-1)) 2 c17) M16 _ _ dX5_tell_61 g20 h
  · have h := h.2.2.2.1 b2
    refine q_tswIn (tgt := 62) (off := 61) C r1 (by omega) (by omega) (by rw [b2]; rfl) (by decide) dX5_tell_1 ?_
    refine q_iload_n C 1 rfl rfl dX5_tell_62 ?_
    refine q_callSI (As := [.int (gI a1)]) (st := []) C vX5_107 kX5_manOf ⟨Nat.le_of_ble_eq_true rfl, Nat.le_of_ble_eq_true rfl⟩ ⟨Nat.le_of_ble_eq_true rfl, Nat.le_of_ble_eq_true rfl⟩ rfl rfl (Nat.le_of_ble_eq_true rfl) (mX5_manOf l D cy kd ln rh _ a1 M  h) dX5_tell_63 (fun c22 M21 g23 h => ?_)
    have h := h g23
    exact hret c22 M21 _ _ dX5_tell_66 g23 h
  · have h := h.2.2.2.2.1 b2
    refine q_tswIn (tgt := 67) (off := 66) C r1 (by omega) (by omega) (by rw [b2]; rfl) (by decide) dX5_tell_1 ?_
    refine q_iload_n C 1 rfl rfl dX5_tell_67 ?_
    refine q_callSI (As := [.int (gI a1)]) (st := []) C vX5_92 kX5_turnOf ⟨Nat.le_of_ble_eq_true rfl, Nat.le_of_ble_eq_true rfl⟩ ⟨Nat.le_of_ble_eq_true rfl, Nat.le_of_ble_eq_true rfl⟩ rfl rfl (Nat.le_of_ble_eq_true rfl) (mX5_turnOf l D cy kd ln rh _ a1 M  h) dX5_tell_68 (fun c25 M24 g26 h => ?_)
    have h := h g26
    exact hret c25 M24 _ _ dX5_tell_71 g26 h
  · have h := h.2.2.2.2.2 b2
    refine q_tswIn (tgt := 72) (off := 71) C r1 (by omega) (by omega) (by rw [b2]; rfl) (by decide) dX5_tell_1 ?_
    refine q_aload_n C 0 rfl rfl dX5_tell_72 ?_
    obtain ⟨r27, h⟩ := h
    refine q_get (v := .ref (rh a0 1)) C fX5_44 hk0 (if_neg (Int.not_lt.mpr r27)) dX5_tell_73 (fun g28 => ?_)
    refine q_iload_n C 1 rfl rfl dX5_tell_76 ?_
    obtain ⟨r29, h⟩ := h
    refine q_bald C hk0 rfl (fun _ q => q) r29 dX5_tell_77 (fun g30 => ?_)
    have h := h g30
    exact hret (M a0 1 a1) M _ _ dX5_tell_78 g30 h
set_option maxHeartbeats 4000000 in
set_option maxRecDepth 100000 in
theorem mX6_position (l : Launch) (D : va_G) (cy : Nat → ClassId) (kd : gKd) (ln : gLn) (rh : gRh) (post : Int → gM → Prop) (px : gM → Prop) (a0 : Int) (a1 : Int) (a2 : Int) (a3 : Int) (M : gM) (hst : l.stackTraces = false) (hk0 : kd a0 = 6) (h : wX6_position kd ln post px a0 a1 a2 a3 M) : gTI l D cy yX6_position cX6_position 6 .int 7 118 [.ref (gad a0), .int (gI a1), .int (gI a2), .int (gI a3)] kd ln rh M post px := by
  refine gTI_of (own := RX6) (by decide) rfl (Nat.le_of_ble_eq_true rfl) hst rfl ?_
  intro p e s m args below meth c A H0 Q C hret hthr hexc
  unfold wX6_position at h
  refine q_aload_n C 0 rfl rfl dX6_position_0 ?_
  refine q_iload_n C 1 rfl rfl dX6_position_1 ?_
  refine q_callTR (As := [.int (gI a1)]) (st := []) C vX6_138 kX6_demandMade ⟨Nat.le_of_ble_eq_true rfl, Nat.le_of_ble_eq_true rfl⟩ ⟨Nat.le_of_ble_eq_true rfl, Nat.le_of_ble_eq_true rfl⟩ rfl hk0 ⟨_, _, rfl⟩ (by decide) rfl (Nat.le_of_ble_eq_true rfl) (mX6_demandMade l D cy kd ln rh _ _ a0 a1 M hst hk0 h) dX6_position_2 (fun M9 h => hexc M9 _ _ _ _ _ (by decide) (by decide) h) (fun c2 M1 h => ?_)
  refine q_astore (lv' := [(4, .ref (gad c2)), (0, .ref (gad a0)), (1, .int (gI a1)), (2, .int (gI a2)), (3, .int (gI a3))]) C (by decide) rfl dX6_position_5 ?_
  refine q_aload C 0 rfl dX6_position_7 ?_
  refine q_iload_n C 3 rfl rfl dX6_position_9 ?_
  obtain ⟨r4, h⟩ := h
  refine q_callVI (As := [.int (gI a2)]) (st := []) C vX6_141 kX5_cellNumbered ⟨Nat.le_of_ble_eq_true rfl, Nat.le_of_ble_eq_true rfl⟩ ⟨Nat.le_of_ble_eq_true rfl, Nat.le_of_ble_eq_true rfl⟩ rfl r4 ⟨_, _, rfl⟩ (by decide) rfl (Nat.le_of_ble_eq_true rfl) (mX5_cellNumbered l D cy kd ln rh _ c2 a2 M1 r4 h) dX6_position_10 (fun c6 M5 g7 h => ?_)
  have h := h g7
  refine q_istore (lv' := [(5, .int (gI c6)), (4, .ref (gad c2)), (0, .ref (gad a0)), (1, .int (gI a1)), (2, .int (gI a2)), (3, .int (gI a3))]) C (by decide) rfl dX6_position_13 ?_
  refine q_iload C 0 rfl dX6_position_15 ?_
  refine q_iconst C dX6_position_17 ?_
  refine q_icmp_ne (tgt := 25) C g7 (show rng (-1) by decide) (by decide) dX6_position_18 (fun b8 => ?_) (fun b8 => ?_)
  · have h := h.1 b8
    refine q_aload C 1 rfl dX6_position_25 ?_
    refine q_iload C 0 rfl dX6_position_27 ?_
    refine q_iload_n C 5 rfl rfl dX6_position_29 ?_
    refine q_callVI (As := [.int (gI c6), .int (gI a3)]) (st := []) C vX6_144 kX5_tell ⟨Nat.le_of_ble_eq_true rfl, Nat.le_of_ble_eq_true rfl⟩ ⟨Nat.le_of_ble_eq_true rfl, Nat.le_of_ble_eq_true rfl⟩ rfl r4 ⟨_, _, rfl⟩ (by decide) rfl (Nat.le_of_ble_eq_true rfl) (mX5_tell l D cy kd ln rh _ c2 c6 a3 M5 r4 h) dX6_position_30 (fun c10 M9 g11 h => ?_)
    have h := h g11
    exact hret c10 M9 _ _ 1 6 (by decide) (by decide) dX6_position_33 g11 h
  · have h := h.2 b8
    refine q_iconst C dX6_position_21 ?_
    refine q_goto (tgt := 33) C (by decide) dX6_position_22 ?_
    exact hret (-1) M5 _ _ 1 6 (by decide) (by decide) dX6_position_33 (show rng (-1) by decide) h
