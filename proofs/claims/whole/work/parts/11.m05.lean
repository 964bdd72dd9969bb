set_option maxHeartbeats 4000000 in
set_option maxRecDepth 100000 in
theorem mX6_longest (l : Launch) (D : va_G) (cy : Nat → ClassId) (kd : gKd) (ln : gLn) (rh : gRh) (post : Int → gM → Prop) (px : gM → Prop) (a0 : Int) (a1 : Int) (a2 : Int) (a3 : Int) (M : gM) (hst : l.stackTraces = false) (hk0 : kd a0 = 6) (h : wX6_longest kd ln post px a0 a1 a2 a3 M) : gTI l D cy yX6_longest cX6_longest 5 .int 8 140 [.ref (gad a0), .int (gI a1), .int (gI a2), .int (gI a3)] kd ln rh M post px := by
  refine gTI_of (own := RX6) (by decide) rfl (Nat.le_of_ble_eq_true rfl) hst rfl ?_
  intro p e s m args below meth c A H0 Q C hret hthr hexc
  unfold wX6_longest at h
  refine q_aload_n C 0 rfl rfl dX6_longest_0 ?_
  refine q_iload_n C 1 rfl rfl dX6_longest_1 ?_
  refine q_iload_n C 2 rfl rfl dX6_longest_2 ?_
  refine q_callTR (As := [.int (gI a1), .int (gI a2)]) (st := []) C vX6_145 kX6_demandTurn ⟨Nat.le_of_ble_eq_true rfl, Nat.le_of_ble_eq_true rfl⟩ ⟨Nat.le_of_ble_eq_true rfl, Nat.le_of_ble_eq_true rfl⟩ rfl hk0 ⟨_, _, rfl⟩ (by decide) rfl (Nat.le_of_ble_eq_true rfl) (mX6_demandTurn l D cy kd ln rh _ _ a0 a1 a2 M hst hk0 h) dX6_longest_3 (fun M9 h => hexc M9 _ _ _ _ _ (by decide) (by decide) h) (fun c2 M1 h => ?_)
  refine q_astore (lv' := [(4, .ref (gad c2)), (0, .ref (gad a0)), (1, .int (gI a1)), (2, .int (gI a2)), (3, .int (gI a3))]) C (by decide) rfl dX6_longest_6 ?_
  refine q_iload_n C 4 rfl rfl dX6_longest_8 ?_
  obtain ⟨r4, h⟩ := h
  refine q_if_ne (tgt := 20) C r4 (by decide) dX6_longest_9 (fun b5 => ?_) (fun b5 => ?_)
  · have h := h.1 b5
    refine q_iload_n C 4 rfl rfl dX6_longest_20 ?_
    refine q_iconst C dX6_longest_21 ?_
    refine q_icmp_ne (tgt := 35) C r4 (show rng 1 by decide) (by decide) dX6_longest_22 (fun b6 => ?_) (fun b6 => ?_)
    · have h := h.1 b6
      refine q_iconst C dX6_longest_35 ?_
      exact hret (-1) M1 _ _ 1 6 (by decide) (by decide) dX6_longest_36 (show rng (-1) by decide) h
    · have h := h.2 b6
      refine q_aload C 0 rfl dX6_longest_25 ?_
      obtain ⟨r7, h⟩ := h
      obtain ⟨r8, h⟩ := h
      refine q_get (v := .ref (rh c2 6)) C fX6_164 r7 (if_neg (Int.not_lt.mpr r8)) dX6_longest_27 (fun g9 => ?_)
      refine q_iload_n C 3 rfl rfl dX6_longest_30 ?_
      obtain ⟨r10, h⟩ := h
      refine q_iald C r7 rfl (fun _ q => q) r10 dX6_longest_31 (fun g11 => ?_)
      have h := h g11
      refine q_goto (tgt := 36) C (by decide) dX6_longest_32 ?_
      exact hret (M1 c2 6 a2) M1 _ _ 1 6 (by decide) (by decide) dX6_longest_36 g11 h
  · have h := h.2 b5
    refine q_aload C 0 rfl dX6_longest_12 ?_
    obtain ⟨r12, h⟩ := h
    obtain ⟨r13, h⟩ := h
    refine q_get (v := .ref (rh c2 5)) C fX6_161 r12 (if_neg (Int.not_lt.mpr r13)) dX6_longest_14 (fun g14 => ?_)
    refine q_iload_n C 3 rfl rfl dX6_longest_17 ?_
    obtain ⟨r15, h⟩ := h
    refine q_iald C r12 rfl (fun _ q => q) r15 dX6_longest_18 (fun g16 => ?_)
    have h := h g16
    exact hret (M1 c2 5 a2) M1 _ _ 1 6 (by decide) (by decide) dX6_longest_19 g16 h
set_option maxHeartbeats 4000000 in
set_option maxRecDepth 100000 in
theorem mX6_move (l : Launch) (D : va_G) (cy : Nat → ClassId) (kd : gKd) (ln : gLn) (rh : gRh) (post : Int → gM → Prop) (a0 : Int) (a1 : Int) (a2 : Int) (M : gM) (hk0 : kd a0 = 6) (h : wX6_move kd ln post a0 a1 a2 M) : gMI l D cy yX6_move cX6_move 3 .int 1 22 [.ref (gad a0), .int (gI a1), .int (gI a2)] kd ln rh M post := by
  refine gMI_of (own := RX6) (by decide) rfl (Nat.le_of_ble_eq_true rfl) ?_
  intro p e s m args below meth c A H0 Q C hret
  unfold wX6_move at h
  refine q_aload_n C 0 rfl rfl dX6_move_0 ?_
  refine q_get (v := gR (M a0 3 (-1))) C fX6_22 hk0 rfl dX6_move_1 (fun g1 => ?_)
  obtain ⟨r2, h⟩ := h
  refine q_nn r2 (by decide) ?_
  refine q_iload_n C 1 rfl rfl dX6_move_4 ?_
  refine q_iload_n C 2 rfl rfl dX6_move_5 ?_
  refine q_callVI (As := [.int (gI a1), .int (gI a2)]) (st := []) C vX6_123 kX1_tell ⟨Nat.le_of_ble_eq_true rfl, Nat.le_of_ble_eq_true rfl⟩ ⟨Nat.le_of_ble_eq_true rfl, Nat.le_of_ble_eq_true rfl⟩ rfl r2 ⟨_, _, rfl⟩ (by decide) rfl (Nat.le_of_ble_eq_true rfl) (mX1_tell l D cy kd ln rh _ (M a0 3 (-1)) a1 a2 M r2 h) dX6_move_6 (fun c4 M3 g5 h => ?_)
  have h := h g5
  exact hret c4 M3 _ _ dX6_move_9 g5 h
set_option maxHeartbeats 4000000 in
set_option maxRecDepth 100000 in
theorem mX6_moves (l : Launch) (D : va_G) (cy : Nat → ClassId) (kd : gKd) (ln : gLn) (rh : gRh) (post : Int → gM → Prop) (a0 : Int) (a1 : Int) (a2 : Int) (a3 : Int) (a4 : Int) (a5 : Int) (M : gM) (hk0 : kd a0 = 6) (h : wX6_moves kd ln post a0 a1 a2 a3 a4 a5 M) : gMI l D cy yX6_moves cX6_moves 8 .int 3 72 [.ref (gad a0), .int (gI a1), .int (gI a2), .int (gI a3), .int (gI a4), .int (gI a5)] kd ln rh M post := by
  refine gMI_of (own := RX6) (by decide) rfl (Nat.le_of_ble_eq_true rfl) ?_
  intro p e s m args below meth c A H0 Q C hret
  have t88 : ∀ (x6 : Int) (y0 : Int) (M : gM), wX6_moves_88 kd ln post a0 a1 a2 a3 a4 a5 x6 y0 M → gW p l e (gRm 3 72) s m args below meth c D cy A H0 Q 8 kd ln rh 0 0 M 88 [(0, .ref (gad a0)), (2, .int (gI a2)), (3, .int (gI a3)), (4, .int (gI a4)), (6, .int (gI x6))] [.int (gI y0)] := by
    intro  x6 y0 M h
    unfold wX6_moves_88 at h
    refine q_istore (lv' := [(7, .int (gI y0)), (0, .ref (gad a0)), (2, .int (gI a2)), (3, .int (gI a3)), (4, .int (gI a4)), (6, .int (gI x6))]) C (by decide) rfl dX6_moves_88 ?_
    refine q_aload_n C 1 rfl rfl dX6_moves_90 ?_
    refine q_get (v := gR (M a0 1 (-1))) C fX6_52 hk0 rfl dX6_moves_91 (fun g35 => ?_)
    obtain ⟨r36, h⟩ := h
    refine q_nn r36 (by decide) ?_
    refine q_iload_n C 2 rfl rfl dX6_moves_94 ?_
    refine q_iload_n C 3 rfl rfl dX6_moves_95 ?_
    refine q_iload C 4 rfl dX6_moves_96 ?_
    refine q_callVL (As := [.int (gI a2), .int (gI a3), .int (gI a4)]) (st := []) C vX6_94 kX0_whiteTargets ⟨Nat.le_of_ble_eq_true rfl, Nat.le_of_ble_eq_true rfl⟩ ⟨Nat.le_of_ble_eq_true rfl, Nat.le_of_ble_eq_true rfl⟩ rfl r36 ⟨_, _, rfl⟩ (by decide) rfl (Nat.le_of_ble_eq_true rfl) (mX0_whiteTargets l D cy kd ln rh _ (M a0 1 (-1)) a2 a3 a4 M r36 h) dX6_moves_98 (fun c38 M37 h => ?_)
    refine q_callSI (As := [.long (gL c38)]) (st := []) C vX6_78 kJ13_bitCount_95d88 ⟨Nat.le_of_ble_eq_true rfl, Nat.le_of_ble_eq_true rfl⟩ ⟨Nat.le_of_ble_eq_true rfl, Nat.le_of_ble_eq_true rfl⟩ rfl rfl (Nat.le_of_ble_eq_true rfl) (mJ13_bitCount_95d88 l D cy kd ln rh _ c38 M37  h) dX6_moves_101 (fun c41 M40 g42 h => ?_)
    have h := h g42
    refine q_iload C 0 rfl dX6_moves_104 ?_
    refine q_iload C 5 rfl dX6_moves_106 ?_
    refine q_imul C dX6_moves_108 ?_
    refine q_iadd C dX6_moves_109 ?_
    obtain ⟨r43, h⟩ := h
    exact hret (c41 + (y0 * x6)) M40 _ _ dX6_moves_110 r43 h
  have t87 : ∀ (x6 : Int) (M : gM), wX6_moves_87 kd ln post a0 a1 a2 a3 a4 a5 x6 M → gW p l e (gRm 3 72) s m args below meth c D cy A H0 Q 8 kd ln rh 0 0 M 87 [(0, .ref (gad a0)), (2, .int (gI a2)), (3, .int (gI a3)), (4, .int (gI a4)), (6, .int (gI x6))] [] := by
    intro  x6 M h
    unfold wX6_moves_87 at h
    refine q_iconst C dX6_moves_87 ?_
    exact t88  x6 1 M h
  unfold wX6_moves at h
  refine q_aload_n C 0 rfl rfl dX6_moves_0 ?_
  refine q_get (v := gR (M a0 1 (-1))) C fX6_52 hk0 rfl dX6_moves_1 (fun g1 => ?_)
  obtain ⟨r2, h⟩ := h
  refine q_nn r2 (by decide) ?_
  refine q_iload_n C 1 rfl rfl dX6_moves_4 ?_
  refine q_iload_n C 2 rfl rfl dX6_moves_5 ?_
  refine q_iload_n C 3 rfl rfl dX6_moves_6 ?_
  refine q_iload C 4 rfl dX6_moves_7 ?_
  refine q_iload C 5 rfl dX6_moves_9 ?_
  refine q_callVI (As := [.int (gI a1), .int (gI a2), .int (gI a3), .int (gI a4), .int (gI a5)]) (st := []) C vX6_70 kX0_allows ⟨Nat.le_of_ble_eq_true rfl, Nat.le_of_ble_eq_true rfl⟩ ⟨Nat.le_of_ble_eq_true rfl, Nat.le_of_ble_eq_true rfl⟩ rfl r2 ⟨_, _, rfl⟩ (by decide) rfl (Nat.le_of_ble_eq_true rfl) (mX0_allows l D cy kd ln rh _ (M a0 1 (-1)) a1 a2 a3 a4 a5 M r2 h) dX6_moves_11 (fun c4 M3 g5 h => ?_)
  have h := h g5
  refine q_if_ne (tgt := 19) C g5 (by decide) dX6_moves_14 (fun b6 => ?_) (fun b6 => ?_)
  · have h := h.1 b6
    refine q_iload C 5 rfl dX6_moves_19 ?_
    refine q_iconst C dX6_moves_21 ?_
    obtain ⟨r7, h⟩ := h
    refine q_icmp_ne (tgt := 41) C r7 (show rng 1 by decide) (by decide) dX6_moves_22 (fun b8 => ?_) (fun b8 => ?_)
    · have h := h.1 b8
      refine q_aload_n C 0 rfl rfl dX6_moves_41 ?_
      refine q_get (v := gR (M3 a0 1 (-1))) C fX6_52 hk0 rfl dX6_moves_42 (fun g9 => ?_)
      obtain ⟨r10, h⟩ := h
      refine q_nn r10 (by decide) ?_
      refine q_iload_n C 1 rfl rfl dX6_moves_45 ?_
      refine q_iload_n C 2 rfl rfl dX6_moves_46 ?_
      refine q_iload_n C 3 rfl rfl dX6_moves_47 ?_
      refine q_iload C 4 rfl dX6_moves_48 ?_
      refine q_callVL (As := [.int (gI a1), .int (gI a2), .int (gI a3), .int (gI a4)]) (st := []) C vX6_84 kX0_manTargets ⟨Nat.le_of_ble_eq_true rfl, Nat.le_of_ble_eq_true rfl⟩ ⟨Nat.le_of_ble_eq_true rfl, Nat.le_of_ble_eq_true rfl⟩ rfl r10 ⟨_, _, rfl⟩ (by decide) rfl (Nat.le_of_ble_eq_true rfl) (mX0_manTargets l D cy kd ln rh _ (M3 a0 1 (-1)) a1 a2 a3 a4 M3 r10 h) dX6_moves_50 (fun c12 M11 h => ?_)
      refine q_callSI (As := [.long (gL c12)]) (st := []) C vX6_78 kJ13_bitCount_95d88 ⟨Nat.le_of_ble_eq_true rfl, Nat.le_of_ble_eq_true rfl⟩ ⟨Nat.le_of_ble_eq_true rfl, Nat.le_of_ble_eq_true rfl⟩ rfl rfl (Nat.le_of_ble_eq_true rfl) (mJ13_bitCount_95d88 l D cy kd ln rh _ c12 M11  h) dX6_moves_53 (fun c15 M14 g16 h => ?_)
      have h := h g16
      refine q_istore (lv' := [(6, .int (gI c15)), (0, .ref (gad a0)), (1, .int (gI a1)), (2, .int (gI a2)), (3, .int (gI a3)), (4, .int (gI a4)), (5, .int (gI a5))]) C (by decide) rfl dX6_moves_56 ?_
      refine q_iload_n C 2 rfl rfl dX6_moves_58 ?_
      refine q_iconst C dX6_moves_59 ?_
      obtain ⟨r17, h⟩ := h
      refine q_icmp_ne (tgt := 87) C r17 (show rng 2 by decide) (by decide) dX6_moves_60 (fun b18 => ?_) (fun b18 => ?_)
      · have h := h.1 b18
        refine q_lv (lv' := [(0, .ref (gad a0)), (2, .int (gI a2)), (3, .int (gI a3)), (4, .int (gI a4)), (6, .int (gI c15))]) [1, 3, 4, 5, 0] rfl ?_
        exact t87  c15 M14 h
      · have h := h.2 b18
        refine q_aload_n C 1 rfl rfl dX6_moves_63 ?_
        refine q_get (v := gR (M14 a0 1 (-1))) C fX6_52 hk0 rfl dX6_moves_64 (fun g19 => ?_)
        obtain ⟨r20, h⟩ := h
        refine q_nn r20 (by decide) ?_
        refine q_iload C 5 rfl dX6_moves_67 ?_
        refine q_aload_n C 1 rfl rfl dX6_moves_69 ?_
        refine q_get (v := gR (M14 a0 1 (-1))) C fX6_52 hk0 rfl dX6_moves_70 (fun g21 => ?_)
        refine q_nn r20 (by decide) ?_
        refine q_get (v := .int (gI (M14 (M14 a0 1 (-1)) 0 (-1)))) C fX6_87 r20 rfl dX6_moves_73 (fun g22 => ?_)
        have h := h g22
        refine q_iadd C dX6_moves_76 ?_
        refine q_callVI (As := [.int (gI (a4 + (M14 (M14 a0 1 (-1)) 0 (-1))))]) (st := []) C vX6_90 kX0_isLastRank ⟨Nat.le_of_ble_eq_true rfl, Nat.le_of_ble_eq_true rfl⟩ ⟨Nat.le_of_ble_eq_true rfl, Nat.le_of_ble_eq_true rfl⟩ rfl r20 ⟨_, _, rfl⟩ (by decide) rfl (Nat.le_of_ble_eq_true rfl) (mX0_isLastRank l D cy kd ln rh _ (M14 a0 1 (-1)) (a4 + (M14 (M14 a0 1 (-1)) 0 (-1))) M14 r20 h) dX6_moves_77 (fun c24 M23 g25 h => ?_)
        have h := h g25
        refine q_if_eq (tgt := 87) C g25 (by decide) dX6_moves_80 (fun b26 => ?_) (fun b26 => ?_)
        · have h := h.1 b26
          refine q_lv (lv' := [(0, .ref (gad a0)), (2, .int (gI a2)), (3, .int (gI a3)), (4, .int (gI a4)), (6, .int (gI c15))]) [1, 3, 4, 5, 0] rfl ?_
          exact t87  c15 M23 h
        · have h := h.2 b26
          refine q_iconst C dX6_moves_83 ?_
          refine q_goto (tgt := 88) C (by decide) dX6_moves_84 ?_
          refine q_lv (lv' := [(0, .ref (gad a0)), (2, .int (gI a2)), (3, .int (gI a3)), (4, .int (gI a4)), (6, .int (gI c15))]) [1, 3, 4, 5, 0] rfl ?_
          exact t88  c15 4 M23 h
    · have h := h.2 b8
      refine q_aload_n C 0 rfl rfl dX6_moves_25 ?_
      refine q_get (v := gR (M3 a0 1 (-1))) C fX6_52 hk0 rfl dX6_moves_26 (fun g27 => ?_)
      obtain ⟨r28, h⟩ := h
      refine q_nn r28 (by decide) ?_
      refine q_iload_n C 1 rfl rfl dX6_moves_29 ?_
      refine q_iload_n C 2 rfl rfl dX6_moves_30 ?_
      refine q_iload_n C 3 rfl rfl dX6_moves_31 ?_
      refine q_iload C 4 rfl dX6_moves_32 ?_
      refine q_callVL (As := [.int (gI a1), .int (gI a2), .int (gI a3), .int (gI a4)]) (st := []) C vX6_74 kX0_blackTargets ⟨Nat.le_of_ble_eq_true rfl, Nat.le_of_ble_eq_true rfl⟩ ⟨Nat.le_of_ble_eq_true rfl, Nat.le_of_ble_eq_true rfl⟩ rfl r28 ⟨_, _, rfl⟩ (by decide) rfl (Nat.le_of_ble_eq_true rfl) (mX0_blackTargets l D cy kd ln rh _ (M3 a0 1 (-1)) a1 a2 a3 a4 M3 r28 h) dX6_moves_34 (fun c30 M29 h => ?_)
      refine q_callSI (As := [.long (gL c30)]) (st := []) C vX6_78 kJ13_bitCount_95d88 ⟨Nat.le_of_ble_eq_true rfl, Nat.le_of_ble_eq_true rfl⟩ ⟨Nat.le_of_ble_eq_true rfl, Nat.le_of_ble_eq_true rfl⟩ rfl rfl (Nat.le_of_ble_eq_true rfl) (mJ13_bitCount_95d88 l D cy kd ln rh _ c30 M29  h) dX6_moves_37 (fun c33 M32 g34 h => ?_)
      have h := h g34
      exact hret c33 M32 _ _ dX6_moves_40 g34 h
  · have h := h.2 b6
    refine q_iconst C dX6_moves_17 ?_
    exact hret (-1) M3 _ _ dX6_moves_18 (show rng (-1) by decide) h
set_option maxHeartbeats 4000000 in
set_option maxRecDepth 100000 in
theorem mX6_number (l : Launch) (D : va_G) (cy : Nat → ClassId) (kd : gKd) (ln : gLn) (rh : gRh) (post : Int → gM → Prop) (px : gM → Prop) (a0 : Int) (a1 : Int) (a2 : Int) (a3 : Int) (a4 : Int) (a5 : Int) (M : gM) (hst : l.stackTraces = false) (hk0 : kd a0 = 6) (h : wX6_number kd ln post px a0 a1 a2 a3 a4 a5 M) : gTI l D cy yX6_number cX6_number 6 .int 8 143 [.ref (gad a0), .int (gI a1), .int (gI a2), .int (gI a3), .int (gI a4), .int (gI a5)] kd ln rh M post px := by
  refine gTI_of (own := RX6) (by decide) rfl (Nat.le_of_ble_eq_true rfl) hst rfl ?_
  intro p e s m args below meth c A H0 Q C hret hthr hexc
  unfold wX6_number at h
  refine q_aload_n C 0 rfl rfl dX6_number_0 ?_
  refine q_iload_n C 1 rfl rfl dX6_number_1 ?_
  refine q_iload_n C 2 rfl rfl dX6_number_2 ?_
  refine q_iload_n C 3 rfl rfl dX6_number_3 ?_
  refine q_iload C 4 rfl dX6_number_4 ?_
  refine q_iload C 5 rfl dX6_number_6 ?_
  refine q_callTR (As := [.int (gI a1), .int (gI a2), .int (gI a3), .int (gI a4), .int (gI a5)]) (st := []) C vX6_98 kX6_demandTable ⟨Nat.le_of_ble_eq_true rfl, Nat.le_of_ble_eq_true rfl⟩ ⟨Nat.le_of_ble_eq_true rfl, Nat.le_of_ble_eq_true rfl⟩ rfl hk0 ⟨_, _, rfl⟩ (by decide) rfl (Nat.le_of_ble_eq_true rfl) (mX6_demandTable l D cy kd ln rh _ _ a0 a1 a2 a3 a4 a5 M hst hk0 h) dX6_number_8 (fun M9 h => hexc M9 _ _ _ _ _ (by decide) (by decide) h) (fun c2 M1 h => ?_)
  refine q_iload_n C 2 rfl rfl dX6_number_11 ?_
  refine q_iload_n C 3 rfl rfl dX6_number_12 ?_
  refine q_iload C 4 rfl dX6_number_13 ?_
  refine q_iload C 5 rfl dX6_number_15 ?_
  obtain ⟨r4, h⟩ := h
  refine q_callVI (As := [.int (gI a2), .int (gI a3), .int (gI a4), .int (gI a5)]) (st := []) C vX6_135 kX5_numberOf ⟨Nat.le_of_ble_eq_true rfl, Nat.le_of_ble_eq_true rfl⟩ ⟨Nat.le_of_ble_eq_true rfl, Nat.le_of_ble_eq_true rfl⟩ rfl r4 ⟨_, _, rfl⟩ (by decide) rfl (Nat.le_of_ble_eq_true rfl) (mX5_numberOf l D cy kd ln rh _ c2 a2 a3 a4 a5 M1 r4 h) dX6_number_17 (fun c6 M5 g7 h => ?_)
  have h := h g7
  exact hret c6 M5 _ _ 1 6 (by decide) (by decide) dX6_number_20 g7 h
set_option maxHeartbeats 4000000 in
set_option maxRecDepth 100000 in
theorem mX6_out (l : Launch) (D : va_G) (cy : Nat → ClassId) (kd : gKd) (ln : gLn) (rh : gRh) (post : Int → gM → Prop) (a0 : Int) (a1 : Int) (M : gM) (hk0 : kd a0 = 6) (h : wX6_out kd ln post a0 a1 M) : gMI l D cy yX6_out cX6_out 2 .int 0 0 [.ref (gad a0), .int (gI a1)] kd ln rh M post := by
  refine gMI_of (own := RX6) (by decide) rfl (Nat.le_of_ble_eq_true rfl) ?_
  intro p e s m args below meth c A H0 Q C hret
  have t12 : ∀ (M : gM), wX6_out_12 kd ln post a0 a1  M → gW p l e (gRm 0 0) s m args below meth c D cy A H0 Q 2 kd ln rh 0 0 M 12 [] [] := by
    intro   M h
    unfold wX6_out_12 at h
    refine q_iconst C dX6_out_12 ?_
    refine q_goto (tgt := 22) C (by decide) dX6_out_13 ?_
    exact hret (-1) M _ _ dX6_out_22 (show rng (-1) by decide) h
  unfold wX6_out at h
  refine q_iload_n C 1 rfl rfl dX6_out_0 ?_
  obtain ⟨r1, h⟩ := h
  refine q_if_lt (tgt := 12) C r1 (by decide) dX6_out_1 (fun b2 => ?_) (fun b2 => ?_)
  · have h := h.1 b2
    refine q_lv (lv' := []) [] rfl ?_
    exact t12  M h
  · have h := h.2 b2
    refine q_iload_n C 1 rfl rfl dX6_out_4 ?_
    refine q_aload_n C 0 rfl rfl dX6_out_5 ?_
    refine q_get (v := .int (gI (M a0 12 (-1)))) C fX6_187 hk0 rfl dX6_out_6 (fun g3 => ?_)
    have h := h g3
    refine q_icmp_lt (tgt := 16) C r1 g3 (by decide) dX6_out_9 (fun b4 => ?_) (fun b4 => ?_)
    · have h := h.1 b4
      refine q_aload_n C 0 rfl rfl dX6_out_16 ?_
      obtain ⟨r5, h⟩ := h
      refine q_get (v := .ref (rh a0 11)) C fX6_46 hk0 (if_neg (Int.not_lt.mpr r5)) dX6_out_17 (fun g6 => ?_)
      refine q_iload_n C 1 rfl rfl dX6_out_20 ?_
      obtain ⟨r7, h⟩ := h
      refine q_iald C hk0 rfl (fun _ q => q) r7 dX6_out_21 (fun g8 => ?_)
      have h := h g8
      exact hret (M a0 11 a1) M _ _ dX6_out_22 g8 h
    · have h := h.2 b4
      refine q_lv (lv' := []) [] rfl ?_
      exact t12  M h
set_option maxHeartbeats 4000000 in
set_option maxRecDepth 100000 in
theorem mX6_ply (l : Launch) (D : va_G) (cy : Nat → ClassId) (kd : gKd) (ln : gLn) (rh : gRh) (post : Int → gM → Prop) (a0 : Int) (a1 : Int) (a2 : Int) (M : gM) (hk0 : kd a0 = 6) (h : wX6_ply kd ln post a0 a1 a2 M) : gMI l D cy yX6_ply cX6_ply 3 .int 0 0 [.ref (gad a0), .int (gI a1), .int (gI a2)] kd ln rh M post := by
  refine gMI_of (own := RX6) (by decide) rfl (Nat.le_of_ble_eq_true rfl) ?_
  intro p e s m args below meth c A H0 Q C hret
  unfold wX6_ply at h
  refine q_iload_n C 1 rfl rfl dX6_ply_0 ?_
  obtain ⟨r1, h⟩ := h
  refine q_if_lt (tgt := 21) C r1 (by decide) dX6_ply_1 (fun b2 => ?_) (fun b2 => ?_)
  · have h := h.1 b2
    refine q_iconst C dX6_ply_21 ?_
    exact hret (-1) M _ _ dX6_ply_22 (show rng (-1) by decide) h
  · have h := h.2 b2
    refine q_iload_n C 1 rfl rfl dX6_ply_4 ?_
    refine q_aload_n C 0 rfl rfl dX6_ply_5 ?_
    refine q_get (v := .int (gI (M a0 8 (-1)))) C fX6_56 hk0 rfl dX6_ply_6 (fun g3 => ?_)
    have h := h g3
    refine q_icmp_ge (tgt := 21) C r1 g3 (by decide) dX6_ply_9 (fun b4 => ?_) (fun b4 => ?_)
    · have h := h.1 b4
      refine q_iconst C dX6_ply_21 ?_
      exact hret (-1) M _ _ dX6_ply_22 (show rng (-1) by decide) h
    · have h := h.2 b4
      refine q_iload_n C 2 rfl rfl dX6_ply_12 ?_
      obtain ⟨r5, h⟩ := h
      refine q_if_lt (tgt := 21) C r5 (by decide) dX6_ply_13 (fun b6 => ?_) (fun b6 => ?_)
      · have h := h.1 b6
        refine q_iconst C dX6_ply_21 ?_
        exact hret (-1) M _ _ dX6_ply_22 (show rng (-1) by decide) h
      · have h := h.2 b6
        refine q_iload_n C 2 rfl rfl dX6_ply_16 ?_
        refine q_iconst C dX6_ply_17 ?_
        refine q_icmp_lt (tgt := 23) C r5 (show rng 5 by decide) (by decide) dX6_ply_18 (fun b7 => ?_) (fun b7 => ?_)
        · have h := h.1 b7
          refine q_aload_n C 0 rfl rfl dX6_ply_23 ?_
          obtain ⟨r8, h⟩ := h
          refine q_get (v := .ref (rh a0 7)) C fX6_39 hk0 (if_neg (Int.not_lt.mpr r8)) dX6_ply_24 (fun g9 => ?_)
          refine q_iload_n C 1 rfl rfl dX6_ply_27 ?_
          refine q_iconst C dX6_ply_28 ?_
          refine q_imul C dX6_ply_29 ?_
          refine q_iload_n C 2 rfl rfl dX6_ply_30 ?_
          refine q_iadd C dX6_ply_31 ?_
          obtain ⟨r10, h⟩ := h
          refine q_iald C hk0 rfl (fun _ q => q) r10 dX6_ply_32 (fun g11 => ?_)
          have h := h g11
          exact hret (M a0 7 ((a1 * 5) + a2)) M _ _ dX6_ply_33 g11 h
        · have h := h.2 b7
          refine q_iconst C dX6_ply_21 ?_
          exact hret (-1) M _ _ dX6_ply_22 (show rng (-1) by decide) h
set_option maxHeartbeats 4000000 in
set_option maxRecDepth 100000 in
theorem mX6_position (l : Launch) (D : va_G) (cy : Nat → ClassId) (kd : gKd) (ln : gLn) (rh : gRh) (post : Int → gM → Prop) (px : gM → Prop) (a0 : Int) (a1 : Int) (a2 : Int) (a3 : Int) (M : gM) (hst : l.stackTraces = false) (hk0 : kd a0 = 6) (h : wX6_position kd ln post px a0 a1 a2 a3 M) : gTI l D cy yX6_position cX6_position 6 .int 7 118 [.ref (gad a0), .int (gI a1), .int (gI a2), .int (gI a3)] kd ln rh M post px := by
  refine gTI_of (own := RX6) (by decide) rfl (Nat.le_of_ble_eq_true rfl) hst rfl ?_
  intro p e s m args below meth c A H0 Q C hret hthr hexc
  unfold wX6_position at h
  refine q_aload_n C 0 rfl rfl dX6_position_0 ?_
  refine q_iload_n C 1 rfl rfl dX6_position_1 ?_
  refine q_callTR (As := [.int (gI a1)]) (st := []) C vX6_138 kX6_demandMade ⟨Nat.le_of_ble_eq_true rfl, Nat.le_of_ble_eq_true rfl⟩ ⟨Nat.le_of_ble_eq_true rfl, Nat.le_of_ble_eq_true rfl⟩ rfl hk0 ⟨_, _, rfl⟩ (by decide) rfl (Nat.le_of_ble_eq_true rfl) (mX6_demandMade l D cy kd ln rh _ _ a0 a1 M hst hk0 h) dX6_position_2 (fun M9 h => hexc M9 _ _ _ _ _ (by decide) (by decide) h) (fun c2 M1 h => ?_)
  refine q_astore (lv' := [(4, .ref (gad c2)), (0, .ref (gad a0)), (1, .int (gI a1)), (2, .int (gI a2)), (3, .int (gI a3))]) C (by decide) rfl dX6_position_5 ?_
  refine q_aload C 0 rfl dX6_position_7 ?_
  refine q_iload_n C 3 rfl rfl dX6_position_9 ?_
  obtain ⟨r4, h⟩ := h
  refine q_callVI (As := [.int (gI a2)]) (st := []) C vX6_141 kX5_cellNumbered ⟨Nat.le_of_ble_eq_true rfl, Nat.le_of_ble_eq_true rfl⟩ ⟨Nat.le_of_ble_eq_true rfl, Nat.le_of_ble_eq_true rfl⟩ rfl r4 ⟨_, _, rfl⟩ (by decide) rfl (Nat.le_of_ble_eq_true rfl) (mX5_cellNumbered l D cy kd ln rh _ c2 a2 M1 r4 h) dX6_position_10 (fun c6 M5 g7 h => ?_)
  have h := h g7
  refine q_istore (lv' := [(5, .int (gI c6)), (4, .ref (gad c2)), (0, .ref (gad a0)), (1, .int (gI a1)), (2, .int (gI a2)), (3, .int (gI a3))]) C (by decide) rfl dX6_position_13 ?_
  refine q_iload C 0 rfl dX6_position_15 ?_
  refine q_iconst C dX6_position_17 ?_
  refine q_icmp_ne (tgt := 25) C g7 (show rng (-1) by decide) (by decide) dX6_position_18 (fun b8 => ?_) (fun b8 => ?_)
  · have h := h.1 b8
    refine q_aload C 1 rfl dX6_position_25 ?_
    refine q_iload C 0 rfl dX6_position_27 ?_
    refine q_iload_n C 5 rfl rfl dX6_position_29 ?_
    refine q_callVI (As := [.int (gI c6), .int (gI a3)]) (st := []) C vX6_144 kX5_tell ⟨Nat.le_of_ble_eq_true rfl, Nat.le_of_ble_eq_true rfl⟩ ⟨Nat.le_of_ble_eq_true rfl, Nat.le_of_ble_eq_true rfl⟩ rfl r4 ⟨_, _, rfl⟩ (by decide) rfl (Nat.le_of_ble_eq_true rfl) (mX5_tell l D cy kd ln rh _ c2 c6 a3 M5 r4 h) dX6_position_30 (fun c10 M9 g11 h => ?_)
    have h := h g11
    exact hret c10 M9 _ _ 1 6 (by decide) (by decide) dX6_position_33 g11 h
  · have h := h.2 b8
    refine q_iconst C dX6_position_21 ?_
    refine q_goto (tgt := 33) C (by decide) dX6_position_22 ?_
    exact hret (-1) M5 _ _ 1 6 (by decide) (by decide) dX6_position_33 (show rng (-1) by decide) h
set_option maxHeartbeats 4000000 in
set_option maxRecDepth 100000 in
theorem mX6_read (l : Launch) (D : va_G) (cy : Nat → ClassId) (kd : gKd) (ln : gLn) (rh : gRh) (post : Int → gM → Prop) (a0 : Int) (a1 : Int) (M : gM) (hk0 : kd a0 = 6) (h : wX6_read kd ln post a0 a1 M) : gMI l D cy yX6_read cX6_read 2 .int 4 99 [.ref (gad a0), .int (gI a1)] kd ln rh M post := by
  refine gMI_of (own := RX6) (by decide) rfl (Nat.le_of_ble_eq_true rfl) ?_
  intro p e s m args below meth c A H0 Q C hret
  unfold wX6_read at h
  refine q_iload_n C 1 rfl rfl dX6_read_0 ?_
  obtain ⟨r1, h⟩ := h
  refine q_if_lt (tgt := 12) C r1 (by decide) dX6_read_1 (fun b2 => ?_) (fun b2 => ?_)
  · have h := h.1 b2
    refine q_bipush C (by decide) dX6_read_12 ?_
    exact hret (-2) M _ _ dX6_read_14 (show rng (-2) by decide) h
  · have h := h.2 b2
    refine q_iload_n C 1 rfl rfl dX6_read_4 ?_
    refine q_aload_n C 0 rfl rfl dX6_read_5 ?_
    refine q_get (v := .int (gI (M a0 10 (-1)))) C fX6_167 hk0 rfl dX6_read_6 (fun g3 => ?_)
    have h := h g3
    refine q_icmp_le (tgt := 15) C r1 g3 (by decide) dX6_read_9 (fun b4 => ?_) (fun b4 => ?_)
    · have h := h.1 b4
      refine q_aload_n C 0 rfl rfl dX6_read_15 ?_
      refine q_iconst C dX6_read_16 ?_
      refine q_put (x := 0) (ty := .int) C fX6_167 hk0 (fun _ _ _ q => by cases q; rfl) (congrArg (fun z => Value.int (gI z)) gu_s) rfl rfl (show rng 0 by decide) (fun j q => absurd (show (0 : Nat) = j + 3 from q) (by omega)) dX6_read_17 ?_
      refine q_iload_n C 1 rfl rfl dX6_read_20 ?_
      refine q_bipush C (by decide) dX6_read_21 ?_
      refine q_icmp_ne (tgt := 33) C r1 (show rng 13 by decide) (by decide) dX6_read_23 (fun b5 => ?_) (fun b5 => ?_)
      · have h := h.1 b5
        refine q_iconst C dX6_read_33 ?_
        exact hret (-1) (gu M a0 10 (-1) 0) _ _ dX6_read_34 (show rng (-1) by decide) h
      · have h := h.2 b5
        refine q_aload_n C 0 rfl rfl dX6_read_26 ?_
        refine q_callVI (As := []) (st := []) C vX6_173 kX6_keyOfText ⟨Nat.le_of_ble_eq_true rfl, Nat.le_of_ble_eq_true rfl⟩ ⟨Nat.le_of_ble_eq_true rfl, Nat.le_of_ble_eq_true rfl⟩ rfl hk0 ⟨_, _, rfl⟩ (by decide) rfl (Nat.le_of_ble_eq_true rfl) (mX6_keyOfText l D cy kd ln rh _ a0 (gu M a0 10 (-1) 0) hk0 h) dX6_read_27 (fun c7 M6 g8 h => ?_)
        have h := h g8
        refine q_goto (tgt := 34) C (by decide) dX6_read_30 ?_
        exact hret c7 M6 _ _ dX6_read_34 g8 h
    · have h := h.2 b4
      refine q_bipush C (by decide) dX6_read_12 ?_
      exact hret (-2) M _ _ dX6_read_14 (show rng (-2) by decide) h
set_option maxHeartbeats 4000000 in
set_option maxRecDepth 100000 in
theorem mX6_showSquare (l : Launch) (D : va_G) (cy : Nat → ClassId) (kd : gKd) (ln : gLn) (rh : gRh) (post : gM → Prop) (a0 : Int) (a1 : Int) (a2 : Int) (a3 : Int) (M : gM) (hk0 : kd a0 = 6) (h : wX6_showSquare kd ln post a0 a1 a2 a3 M) : gMV l D cy yX6_showSquare cX6_showSquare 4 0 0 [.ref (gad a0), .int (gI a1), .int (gI a2), .int (gI a3)] kd ln rh M post := by
  refine gMV_of (own := RX6) (by decide) rfl (Nat.le_of_ble_eq_true rfl) ?_
  intro p e s m args below meth c A H0 Q C hret
  unfold wX6_showSquare at h
  refine q_aload_n C 0 rfl rfl dX6_showSquare_0 ?_
  obtain ⟨r1, h⟩ := h
  refine q_get (v := .ref (rh a0 11)) C fX6_46 hk0 (if_neg (Int.not_lt.mpr r1)) dX6_showSquare_1 (fun g2 => ?_)
  refine q_iload_n C 1 rfl rfl dX6_showSquare_4 ?_
  refine q_iload_n C 2 rfl rfl dX6_showSquare_5 ?_
  obtain ⟨r3, h⟩ := h
  obtain ⟨r4, h⟩ := h
  refine q_iast C hk0 rfl r4 r3 dX6_showSquare_6 ?_
  refine q_aload_n C 0 rfl rfl dX6_showSquare_7 ?_
  refine q_get (v := .ref (rh a0 11)) C fX6_46 hk0 (if_neg (Int.not_lt.mpr r1)) dX6_showSquare_8 (fun g5 => ?_)
  refine q_iload_n C 1 rfl rfl dX6_showSquare_11 ?_
  refine q_iconst C dX6_showSquare_12 ?_
  refine q_iadd C dX6_showSquare_13 ?_
  refine q_bipush C (by decide) dX6_showSquare_14 ?_
  refine q_aload_n C 0 rfl rfl dX6_showSquare_16 ?_
  refine q_get (v := gR ((gu M a0 11 a1 a2) a0 1 (-1))) C fX6_52 hk0 rfl dX6_showSquare_17 (fun g6 => ?_)
  obtain ⟨r7, h⟩ := h
  refine q_nn r7 (by decide) ?_
  obtain ⟨r8, h⟩ := h
  refine q_get (v := .ref (rh ((gu M a0 11 a1 a2) a0 1 (-1)) 3)) C fX6_254 r7 (if_neg (Int.not_lt.mpr r8)) dX6_showSquare_20 (fun g9 => ?_)
  refine q_iload_n C 3 rfl rfl dX6_showSquare_23 ?_
  obtain ⟨r10, h⟩ := h
  refine q_iald C r7 rfl (fun _ q => q) r10 dX6_showSquare_24 (fun g11 => ?_)
  have h := h g11
  refine q_iadd C dX6_showSquare_25 ?_
  obtain ⟨r12, h⟩ := h
  obtain ⟨r13, h⟩ := h
  refine q_iast C hk0 rfl r13 r12 dX6_showSquare_26 ?_
  refine q_aload_n C 0 rfl rfl dX6_showSquare_27 ?_
  refine q_get (v := .ref (rh a0 11)) C fX6_46 hk0 (if_neg (Int.not_lt.mpr r1)) dX6_showSquare_28 (fun g14 => ?_)
  refine q_iload_n C 1 rfl rfl dX6_showSquare_31 ?_
  refine q_iconst C dX6_showSquare_32 ?_
  refine q_iadd C dX6_showSquare_33 ?_
  refine q_bipush C (by decide) dX6_showSquare_34 ?_
  refine q_aload_n C 0 rfl rfl dX6_showSquare_36 ?_
  refine q_get (v := gR ((gu (gu M a0 11 a1 a2) a0 11 (a1 + 1) (97 + ((gu M a0 11 a1 a2) ((gu M a0 11 a1 a2) a0 1 (-1)) 3 a3))) a0 1 (-1))) C fX6_52 hk0 rfl dX6_showSquare_37 (fun g15 => ?_)
  obtain ⟨r16, h⟩ := h
  refine q_nn r16 (by decide) ?_
  obtain ⟨r17, h⟩ := h
  refine q_get (v := .ref (rh ((gu (gu M a0 11 a1 a2) a0 11 (a1 + 1) (97 + ((gu M a0 11 a1 a2) ((gu M a0 11 a1 a2) a0 1 (-1)) 3 a3))) a0 1 (-1)) 2)) C fX6_257 r16 (if_neg (Int.not_lt.mpr r17)) dX6_showSquare_40 (fun g18 => ?_)
  refine q_iload_n C 3 rfl rfl dX6_showSquare_43 ?_
  obtain ⟨r19, h⟩ := h
  refine q_iald C r16 rfl (fun _ q => q) r19 dX6_showSquare_44 (fun g20 => ?_)
  have h := h g20
  refine q_iadd C dX6_showSquare_45 ?_
  obtain ⟨r21, h⟩ := h
  obtain ⟨r22, h⟩ := h
  refine q_iast C hk0 rfl r22 r21 dX6_showSquare_46 ?_
  refine q_aload_n C 0 rfl rfl dX6_showSquare_47 ?_
  refine q_get (v := .ref (rh a0 11)) C fX6_46 hk0 (if_neg (Int.not_lt.mpr r1)) dX6_showSquare_48 (fun g23 => ?_)
  refine q_iload_n C 1 rfl rfl dX6_showSquare_51 ?_
  refine q_iconst C dX6_showSquare_52 ?_
  refine q_iadd C dX6_showSquare_53 ?_
  refine q_bipush C (by decide) dX6_showSquare_54 ?_
  obtain ⟨r24, h⟩ := h
  refine q_iast C hk0 rfl (show rng 32 by decide) r24 dX6_showSquare_56 ?_
  exact hret (gu (gu (gu (gu M a0 11 a1 a2) a0 11 (a1 + 1) (97 + ((gu M a0 11 a1 a2) ((gu M a0 11 a1 a2) a0 1 (-1)) 3 a3))) a0 11 (a1 + 2) (49 + ((gu (gu M a0 11 a1 a2) a0 11 (a1 + 1) (97 + ((gu M a0 11 a1 a2) ((gu M a0 11 a1 a2) a0 1 (-1)) 3 a3))) ((gu (gu M a0 11 a1 a2) a0 11 (a1 + 1) (97 + ((gu M a0 11 a1 a2) ((gu M a0 11 a1 a2) a0 1 (-1)) 3 a3))) a0 1 (-1)) 2 a3))) a0 11 (a1 + 3) 32) _ _ dX6_showSquare_57 h
set_option maxHeartbeats 4000000 in
set_option maxRecDepth 100000 in
theorem mX6_show (l : Launch) (D : va_G) (cy : Nat → ClassId) (kd : gKd) (ln : gLn) (rh : gRh) (post : Int → gM → Prop) (a0 : Int) (a1 : Int) (a2 : Int) (a3 : Int) (a4 : Int) (a5 : Int) (M : gM) (hk0 : kd a0 = 6) (h : wX6_show kd ln post a0 a1 a2 a3 a4 a5 M) : gMI l D cy yX6_show cX6_show 6 .int 3 72 [.ref (gad a0), .int (gI a1), .int (gI a2), .int (gI a3), .int (gI a4), .int (gI a5)] kd ln rh M post := by
  refine gMI_of (own := RX6) (by decide) rfl (Nat.le_of_ble_eq_true rfl) ?_
  intro p e s m args below meth c A H0 Q C hret
  unfold wX6_show at h
  refine q_aload_n C 0 rfl rfl dX6_show_0 ?_
  refine q_get (v := gR (M a0 1 (-1))) C fX6_52 hk0 rfl dX6_show_1 (fun g1 => ?_)
  obtain ⟨r2, h⟩ := h
  refine q_nn r2 (by decide) ?_
  refine q_iload_n C 1 rfl rfl dX6_show_4 ?_
  refine q_iload_n C 2 rfl rfl dX6_show_5 ?_
  refine q_iload_n C 3 rfl rfl dX6_show_6 ?_
  refine q_iload C 4 rfl dX6_show_7 ?_
  refine q_iload C 5 rfl dX6_show_9 ?_
  refine q_callVI (As := [.int (gI a1), .int (gI a2), .int (gI a3), .int (gI a4), .int (gI a5)]) (st := []) C vX6_70 kX0_allows ⟨Nat.le_of_ble_eq_true rfl, Nat.le_of_ble_eq_true rfl⟩ ⟨Nat.le_of_ble_eq_true rfl, Nat.le_of_ble_eq_true rfl⟩ rfl r2 ⟨_, _, rfl⟩ (by decide) rfl (Nat.le_of_ble_eq_true rfl) (mX0_allows l D cy kd ln rh _ (M a0 1 (-1)) a1 a2 a3 a4 a5 M r2 h) dX6_show_11 (fun c4 M3 g5 h => ?_)
  have h := h g5
  refine q_if_ne (tgt := 19) C g5 (by decide) dX6_show_14 (fun b6 => ?_) (fun b6 => ?_)
  · have h := h.1 b6
    refine q_aload_n C 0 rfl rfl dX6_show_19 ?_
    refine q_iconst C dX6_show_20 ?_
    refine q_bipush C (by decide) dX6_show_21 ?_
    refine q_iload_n C 2 rfl rfl dX6_show_23 ?_
    refine q_callVV (As := [.int (gI 0), .int (gI 75), .int (gI a2)]) (st := []) C vX6_176 kX6_showSquare ⟨Nat.le_of_ble_eq_true rfl, Nat.le_of_ble_eq_true rfl⟩ ⟨Nat.le_of_ble_eq_true rfl, Nat.le_of_ble_eq_true rfl⟩ rfl hk0 ⟨_, _, rfl⟩ (by decide) rfl (Nat.le_of_ble_eq_true rfl) (mX6_showSquare l D cy kd ln rh _ a0 0 75 a2 M3 hk0 h) dX6_show_24 (fun M7 h => ?_)
    refine q_aload_n C 0 rfl rfl dX6_show_27 ?_
    refine q_iconst C dX6_show_28 ?_
    refine q_gets (t := 0) C (Or.inl ⟨rfl, rfl⟩) zX6_180 dX6_show_29 ?_
    refine q_iload_n C 1 rfl rfl dX6_show_32 ?_
    obtain ⟨r10, h⟩ := h
    refine q_cald C (by decide) r10 dX6_show_33 (fun g11 => ?_)
    have h := h g11
    refine q_iload C 4 rfl dX6_show_34 ?_
    refine q_callVV (As := [.int (gI 4), .int (gI (gle 0 a1.toNat)), .int (gI a4)]) (st := []) C vX6_176 kX6_showSquare ⟨Nat.le_of_ble_eq_true rfl, Nat.le_of_ble_eq_true rfl⟩ ⟨Nat.le_of_ble_eq_true rfl, Nat.le_of_ble_eq_true rfl⟩ rfl hk0 ⟨_, _, rfl⟩ (by decide) rfl (Nat.le_of_ble_eq_true rfl) (mX6_showSquare l D cy kd ln rh _ a0 4 (gle 0 a1.toNat) a4 M7 hk0 h) dX6_show_36 (fun M12 h => ?_)
    refine q_aload_n C 0 rfl rfl dX6_show_39 ?_
    refine q_bipush C (by decide) dX6_show_40 ?_
    refine q_bipush C (by decide) dX6_show_42 ?_
    refine q_iload_n C 3 rfl rfl dX6_show_44 ?_
    refine q_callVV (As := [.int (gI 8), .int (gI 107), .int (gI a3)]) (st := []) C vX6_176 kX6_showSquare ⟨Nat.le_of_ble_eq_true rfl, Nat.le_of_ble_eq_true rfl⟩ ⟨Nat.le_of_ble_eq_true rfl, Nat.le_of_ble_eq_true rfl⟩ rfl hk0 ⟨_, _, rfl⟩ (by decide) rfl (Nat.le_of_ble_eq_true rfl) (mX6_showSquare l D cy kd ln rh _ a0 8 107 a3 M12 hk0 h) dX6_show_45 (fun M15 h => ?_)
    refine q_aload_n C 0 rfl rfl dX6_show_48 ?_
    obtain ⟨r18, h⟩ := h
    refine q_get (v := .ref (rh a0 11)) C fX6_46 hk0 (if_neg (Int.not_lt.mpr r18)) dX6_show_49 (fun g19 => ?_)
    refine q_bipush C (by decide) dX6_show_52 ?_
    refine q_gets (t := 1) C (Or.inr ⟨rfl, rfl⟩) zX6_184 dX6_show_54 ?_
    refine q_iload C 5 rfl dX6_show_57 ?_
    obtain ⟨r20, h⟩ := h
    refine q_cald C (by decide) r20 dX6_show_59 (fun g21 => ?_)
    have h := h g21
    obtain ⟨r22, h⟩ := h
    refine q_iast C hk0 rfl g21 r22 dX6_show_60 ?_
    refine q_aload_n C 0 rfl rfl dX6_show_61 ?_
    refine q_bipush C (by decide) dX6_show_62 ?_
    refine q_put (x := 13) (ty := .int) C fX6_187 hk0 (fun _ _ _ q => by cases q; rfl) (congrArg (fun z => Value.int (gI z)) gu_s) rfl rfl (show rng 13 by decide) (fun j q => absurd (show (0 : Nat) = j + 3 from q) (by omega)) dX6_show_64 ?_
    refine q_aload_n C 0 rfl rfl dX6_show_67 ?_
    refine q_get (v := .int (gI ((gu (gu M15 a0 11 12 (gle 1 a5.toNat)) a0 12 (-1) 13) a0 12 (-1)))) C fX6_187 hk0 rfl dX6_show_68 (fun g23 => ?_)
    have h := h g23
    exact hret ((gu (gu M15 a0 11 12 (gle 1 a5.toNat)) a0 12 (-1) 13) a0 12 (-1)) (gu (gu M15 a0 11 12 (gle 1 a5.toNat)) a0 12 (-1) 13) _ _ dX6_show_71 g23 h
  · have h := h.2 b6
    refine q_iconst C dX6_show_17 ?_
    exact hret (-1) M3 _ _ dX6_show_18 (show rng (-1) by decide) h
set_option maxHeartbeats 4000000 in
set_option maxRecDepth 100000 in
theorem mX7_add (l : Launch) (D : va_G) (cy : Nat → ClassId) (kd : gKd) (ln : gLn) (rh : gRh) (post : gM → Prop) (a0 : Int) (a1 : Int) (a2 : Int) (a3 : Int) (a4 : Int) (a5 : Int) (a6 : Int) (a7 : Int) (M : gM) (hk0 : kd a0 = 7) (h : wX7_add kd ln post a0 a1 a2 a3 a4 a5 a6 a7 M) : gMV l D cy yX7_add cX7_add 9 0 0 [.ref (gad a0), .int (gI a1), .int (gI a2), .int (gI a3), .int (gI a4), .int (gI a5), .int (gI a6), .int (gI a7)] kd ln rh M post := by
  refine gMV_of (own := RX7) (by decide) rfl (Nat.le_of_ble_eq_true rfl) ?_
  intro p e s m args below meth c A H0 Q C hret
  have t50 : ∀ (k6 : Int → gM → Prop), (∀ (x8 : Int), ∀ (M : gM), k6 x8 M → gW p l e (gRm 0 0) s m args below meth c D cy A H0 Q 9 kd ln rh 0 0 M 6 [(0, .ref (gad a0)), (1, .int (gI a1)), (2, .int (gI a2)), (3, .int (gI a3)), (4, .int (gI a4)), (5, .int (gI a5)), (6, .int (gI a6)), (7, .int (gI a7)), (8, .int (gI x8))] []) → ∀ (x8 : Int) (M : gM), wX7_add_50 kd ln post a0 a1 a2 a3 a4 a5 a6 a7 k6 x8 M → gW p l e (gRm 0 0) s m args below meth c D cy A H0 Q 9 kd ln rh 0 0 M 50 [(0, .ref (gad a0)), (1, .int (gI a1)), (2, .int (gI a2)), (3, .int (gI a3)), (4, .int (gI a4)), (5, .int (gI a5)), (6, .int (gI a6)), (7, .int (gI a7)), (8, .int (gI x8))] [] := by
    intro k6 hk6_ x8 M h
    unfold wX7_add_50 at h
    refine q_aload_n C 0 rfl rfl dX7_add_50 ?_
    obtain ⟨r20, h⟩ := h
    refine q_get (v := .ref (rh a0 13)) C fX7_42 hk0 (if_neg (Int.not_lt.mpr r20)) dX7_add_51 (fun g21 => ?_)
    refine q_iload C 8 rfl dX7_add_54 ?_
    refine q_aload_n C 0 rfl rfl dX7_add_56 ?_
    refine q_get (v := .ref (rh a0 13)) C fX7_42 hk0 (if_neg (Int.not_lt.mpr r20)) dX7_add_57 (fun g22 => ?_)
    refine q_iload C 8 rfl dX7_add_60 ?_
    refine q_iconst C dX7_add_62 ?_
    refine q_isub C dX7_add_63 ?_
    obtain ⟨r23, h⟩ := h
    refine q_iald C hk0 rfl (fun _ q => q) r23 dX7_add_64 (fun g24 => ?_)
    have h := h g24
    obtain ⟨r25, h⟩ := h
    refine q_iast C hk0 rfl g24 r25 dX7_add_65 ?_
    refine q_aload_n C 0 rfl rfl dX7_add_66 ?_
    obtain ⟨r26, h⟩ := h
    refine q_get (v := .ref (rh a0 14)) C fX7_45 hk0 (if_neg (Int.not_lt.mpr r26)) dX7_add_67 (fun g27 => ?_)
    refine q_iload C 8 rfl dX7_add_70 ?_
    refine q_aload_n C 0 rfl rfl dX7_add_72 ?_
    refine q_get (v := .ref (rh a0 14)) C fX7_45 hk0 (if_neg (Int.not_lt.mpr r26)) dX7_add_73 (fun g28 => ?_)
    refine q_iload C 8 rfl dX7_add_76 ?_
    refine q_iconst C dX7_add_78 ?_
    refine q_isub C dX7_add_79 ?_
    obtain ⟨r29, h⟩ := h
    refine q_iald C hk0 rfl (fun _ q => q) r29 dX7_add_80 (fun g30 => ?_)
    have h := h g30
    obtain ⟨r31, h⟩ := h
    refine q_iast C hk0 rfl g30 r31 dX7_add_81 ?_
    refine q_aload_n C 0 rfl rfl dX7_add_82 ?_
    obtain ⟨r32, h⟩ := h
    refine q_get (v := .ref (rh a0 15)) C fX7_48 hk0 (if_neg (Int.not_lt.mpr r32)) dX7_add_83 (fun g33 => ?_)
    refine q_iload C 8 rfl dX7_add_86 ?_
    refine q_aload_n C 0 rfl rfl dX7_add_88 ?_
    refine q_get (v := .ref (rh a0 15)) C fX7_48 hk0 (if_neg (Int.not_lt.mpr r32)) dX7_add_89 (fun g34 => ?_)
    refine q_iload C 8 rfl dX7_add_92 ?_
    refine q_iconst C dX7_add_94 ?_
    refine q_isub C dX7_add_95 ?_
    obtain ⟨r35, h⟩ := h
    refine q_iald C hk0 rfl (fun _ q => q) r35 dX7_add_96 (fun g36 => ?_)
    have h := h g36
    obtain ⟨r37, h⟩ := h
    refine q_iast C hk0 rfl g36 r37 dX7_add_97 ?_
    refine q_aload_n C 0 rfl rfl dX7_add_98 ?_
    obtain ⟨r38, h⟩ := h
    refine q_get (v := .ref (rh a0 16)) C fX7_51 hk0 (if_neg (Int.not_lt.mpr r38)) dX7_add_99 (fun g39 => ?_)
    refine q_iload C 8 rfl dX7_add_102 ?_
    refine q_aload_n C 0 rfl rfl dX7_add_104 ?_
    refine q_get (v := .ref (rh a0 16)) C fX7_51 hk0 (if_neg (Int.not_lt.mpr r38)) dX7_add_105 (fun g40 => ?_)
    refine q_iload C 8 rfl dX7_add_108 ?_
    refine q_iconst C dX7_add_110 ?_
    refine q_isub C dX7_add_111 ?_
    obtain ⟨r41, h⟩ := h
    refine q_iald C hk0 rfl (fun _ q => q) r41 dX7_add_112 (fun g42 => ?_)
    have h := h g42
    obtain ⟨r43, h⟩ := h
    refine q_iast C hk0 rfl g42 r43 dX7_add_113 ?_
    refine q_aload_n C 0 rfl rfl dX7_add_114 ?_
    obtain ⟨r44, h⟩ := h
    refine q_get (v := .ref (rh a0 17)) C fX7_54 hk0 (if_neg (Int.not_lt.mpr r44)) dX7_add_115 (fun g45 => ?_)
    refine q_iload C 8 rfl dX7_add_118 ?_
    refine q_aload_n C 0 rfl rfl dX7_add_120 ?_
    refine q_get (v := .ref (rh a0 17)) C fX7_54 hk0 (if_neg (Int.not_lt.mpr r44)) dX7_add_121 (fun g46 => ?_)
    refine q_iload C 8 rfl dX7_add_124 ?_
    refine q_iconst C dX7_add_126 ?_
    refine q_isub C dX7_add_127 ?_
    obtain ⟨r47, h⟩ := h
    refine q_iald C hk0 rfl (fun _ q => q) r47 dX7_add_128 (fun g48 => ?_)
    have h := h g48
    obtain ⟨r49, h⟩ := h
    refine q_iast C hk0 rfl g48 r49 dX7_add_129 ?_
    refine q_aload_n C 0 rfl rfl dX7_add_130 ?_
    obtain ⟨r50, h⟩ := h
    refine q_get (v := .ref (rh a0 18)) C fX7_57 hk0 (if_neg (Int.not_lt.mpr r50)) dX7_add_131 (fun g51 => ?_)
    refine q_iload C 8 rfl dX7_add_134 ?_
    refine q_aload_n C 0 rfl rfl dX7_add_136 ?_
    refine q_get (v := .ref (rh a0 18)) C fX7_57 hk0 (if_neg (Int.not_lt.mpr r50)) dX7_add_137 (fun g52 => ?_)
    refine q_iload C 8 rfl dX7_add_140 ?_
    refine q_iconst C dX7_add_142 ?_
    refine q_isub C dX7_add_143 ?_
    obtain ⟨r53, h⟩ := h
    refine q_iald C hk0 rfl (fun _ q => q) r53 dX7_add_144 (fun g54 => ?_)
    have h := h g54
    obtain ⟨r55, h⟩ := h
    refine q_iast C hk0 rfl g54 r55 dX7_add_145 ?_
    refine q_aload_n C 0 rfl rfl dX7_add_146 ?_
    obtain ⟨r56, h⟩ := h
    refine q_get (v := .ref (rh a0 19)) C fX7_60 hk0 (if_neg (Int.not_lt.mpr r56)) dX7_add_147 (fun g57 => ?_)
    refine q_iload C 8 rfl dX7_add_150 ?_
    refine q_aload_n C 0 rfl rfl dX7_add_152 ?_
    refine q_get (v := .ref (rh a0 19)) C fX7_60 hk0 (if_neg (Int.not_lt.mpr r56)) dX7_add_153 (fun g58 => ?_)
    refine q_iload C 8 rfl dX7_add_156 ?_
    refine q_iconst C dX7_add_158 ?_
    refine q_isub C dX7_add_159 ?_
    obtain ⟨r59, h⟩ := h
    refine q_iald C hk0 rfl (fun _ q => q) r59 dX7_add_160 (fun g60 => ?_)
    have h := h g60
    obtain ⟨r61, h⟩ := h
    refine q_iast C hk0 rfl g60 r61 dX7_add_161 ?_
    refine q_iinc (lv' := [(8, .int (gI (x8 + (-1)))), (0, .ref (gad a0)), (1, .int (gI a1)), (2, .int (gI a2)), (3, .int (gI a3)), (4, .int (gI a4)), (5, .int (gI a5)), (6, .int (gI a6)), (7, .int (gI a7))]) C 8 rfl (by decide) rfl dX7_add_162 ?_
    refine q_goto (tgt := 6) C (by decide) dX7_add_165 ?_
    refine q_lv (lv' := [(0, .ref (gad a0)), (1, .int (gI a1)), (2, .int (gI a2)), (3, .int (gI a3)), (4, .int (gI a4)), (5, .int (gI a5)), (6, .int (gI a6)), (7, .int (gI a7)), (8, .int (gI (x8 + (-1))))]) [1, 2, 3, 4, 5, 6, 7, 8, 0] rfl ?_
    exact hk6_ (x8 + (-1)) (gu (gu (gu (gu (gu (gu (gu M a0 13 x8 (M a0 13 (x8 - 1))) a0 14 x8 ((gu M a0 13 x8 (M a0 13 (x8 - 1))) a0 14 (x8 - 1))) a0 15 x8 ((gu (gu M a0 13 x8 (M a0 13 (x8 - 1))) a0 14 x8 ((gu M a0 13 x8 (M a0 13 (x8 - 1))) a0 14 (x8 - 1))) a0 15 (x8 - 1))) a0 16 x8 ((gu (gu (gu M a0 13 x8 (M a0 13 (x8 - 1))) a0 14 x8 ((gu M a0 13 x8 (M a0 13 (x8 - 1))) a0 14 (x8 - 1))) a0 15 x8 ((gu (gu M a0 13 x8 (M a0 13 (x8 - 1))) a0 14 x8 ((gu M a0 13 x8 (M a0 13 (x8 - 1))) a0 14 (x8 - 1))) a0 15 (x8 - 1))) a0 16 (x8 - 1))) a0 17 x8 ((gu (gu (gu (gu M a0 13 x8 (M a0 13 (x8 - 1))) a0 14 x8 ((gu M a0 13 x8 (M a0 13 (x8 - 1))) a0 14 (x8 - 1))) a0 15 x8 ((gu (gu M a0 13 x8 (M a0 13 (x8 - 1))) a0 14 x8 ((gu M a0 13 x8 (M a0 13 (x8 - 1))) a0 14 (x8 - 1))) a0 15 (x8 - 1))) a0 16 x8 ((gu (gu (gu M a0 13 x8 (M a0 13 (x8 - 1))) a0 14 x8 ((gu M a0 13 x8 (M a0 13 (x8 - 1))) a0 14 (x8 - 1))) a0 15 x8 ((gu (gu M a0 13 x8 (M a0 13 (x8 - 1))) a0 14 x8 ((gu M a0 13 x8 (M a0 13 (x8 - 1))) a0 14 (x8 - 1))) a0 15 (x8 - 1))) a0 16 (x8 - 1))) a0 17 (x8 - 1))) a0 18 x8 ((gu (gu (gu (gu (gu M a0 13 x8 (M a0 13 (x8 - 1))) a0 14 x8 ((gu M a0 13 x8 (M a0 13 (x8 - 1))) a0 14 (x8 - 1))) a0 15 x8 ((gu (gu M a0 13 x8 (M a0 13 (x8 - 1))) a0 14 x8 ((gu M a0 13 x8 (M a0 13 (x8 - 1))) a0 14 (x8 - 1))) a0 15 (x8 - 1))) a0 16 x8 ((gu (gu (gu M a0 13 x8 (M a0 13 (x8 - 1))) a0 14 x8 ((gu M a0 13 x8 (M a0 13 (x8 - 1))) a0 14 (x8 - 1))) a0 15 x8 ((gu (gu M a0 13 x8 (M a0 13 (x8 - 1))) a0 14 x8 ((gu M a0 13 x8 (M a0 13 (x8 - 1))) a0 14 (x8 - 1))) a0 15 (x8 - 1))) a0 16 (x8 - 1))) a0 17 x8 ((gu (gu (gu (gu M a0 13 x8 (M a0 13 (x8 - 1))) a0 14 x8 ((gu M a0 13 x8 (M a0 13 (x8 - 1))) a0 14 (x8 - 1))) a0 15 x8 ((gu (gu M a0 13 x8 (M a0 13 (x8 - 1))) a0 14 x8 ((gu M a0 13 x8 (M a0 13 (x8 - 1))) a0 14 (x8 - 1))) a0 15 (x8 - 1))) a0 16 x8 ((gu (gu (gu M a0 13 x8 (M a0 13 (x8 - 1))) a0 14 x8 ((gu M a0 13 x8 (M a0 13 (x8 - 1))) a0 14 (x8 - 1))) a0 15 x8 ((gu (gu M a0 13 x8 (M a0 13 (x8 - 1))) a0 14 x8 ((gu M a0 13 x8 (M a0 13 (x8 - 1))) a0 14 (x8 - 1))) a0 15 (x8 - 1))) a0 16 (x8 - 1))) a0 17 (x8 - 1))) a0 18 (x8 - 1))) a0 19 x8 ((gu (gu (gu (gu (gu (gu M a0 13 x8 (M a0 13 (x8 - 1))) a0 14 x8 ((gu M a0 13 x8 (M a0 13 (x8 - 1))) a0 14 (x8 - 1))) a0 15 x8 ((gu (gu M a0 13 x8 (M a0 13 (x8 - 1))) a0 14 x8 ((gu M a0 13 x8 (M a0 13 (x8 - 1))) a0 14 (x8 - 1))) a0 15 (x8 - 1))) a0 16 x8 ((gu (gu (gu M a0 13 x8 (M a0 13 (x8 - 1))) a0 14 x8 ((gu M a0 13 x8 (M a0 13 (x8 - 1))) a0 14 (x8 - 1))) a0 15 x8 ((gu (gu M a0 13 x8 (M a0 13 (x8 - 1))) a0 14 x8 ((gu M a0 13 x8 (M a0 13 (x8 - 1))) a0 14 (x8 - 1))) a0 15 (x8 - 1))) a0 16 (x8 - 1))) a0 17 x8 ((gu (gu (gu (gu M a0 13 x8 (M a0 13 (x8 - 1))) a0 14 x8 ((gu M a0 13 x8 (M a0 13 (x8 - 1))) a0 14 (x8 - 1))) a0 15 x8 ((gu (gu M a0 13 x8 (M a0 13 (x8 - 1))) a0 14 x8 ((gu M a0 13 x8 (M a0 13 (x8 - 1))) a0 14 (x8 - 1))) a0 15 (x8 - 1))) a0 16 x8 ((gu (gu (gu M a0 13 x8 (M a0 13 (x8 - 1))) a0 14 x8 ((gu M a0 13 x8 (M a0 13 (x8 - 1))) a0 14 (x8 - 1))) a0 15 x8 ((gu (gu M a0 13 x8 (M a0 13 (x8 - 1))) a0 14 x8 ((gu M a0 13 x8 (M a0 13 (x8 - 1))) a0 14 (x8 - 1))) a0 15 (x8 - 1))) a0 16 (x8 - 1))) a0 17 (x8 - 1))) a0 18 x8 ((gu (gu (gu (gu (gu M a0 13 x8 (M a0 13 (x8 - 1))) a0 14 x8 ((gu M a0 13 x8 (M a0 13 (x8 - 1))) a0 14 (x8 - 1))) a0 15 x8 ((gu (gu M a0 13 x8 (M a0 13 (x8 - 1))) a0 14 x8 ((gu M a0 13 x8 (M a0 13 (x8 - 1))) a0 14 (x8 - 1))) a0 15 (x8 - 1))) a0 16 x8 ((gu (gu (gu M a0 13 x8 (M a0 13 (x8 - 1))) a0 14 x8 ((gu M a0 13 x8 (M a0 13 (x8 - 1))) a0 14 (x8 - 1))) a0 15 x8 ((gu (gu M a0 13 x8 (M a0 13 (x8 - 1))) a0 14 x8 ((gu M a0 13 x8 (M a0 13 (x8 - 1))) a0 14 (x8 - 1))) a0 15 (x8 - 1))) a0 16 (x8 - 1))) a0 17 x8 ((gu (gu (gu (gu M a0 13 x8 (M a0 13 (x8 - 1))) a0 14 x8 ((gu M a0 13 x8 (M a0 13 (x8 - 1))) a0 14 (x8 - 1))) a0 15 x8 ((gu (gu M a0 13 x8 (M a0 13 (x8 - 1))) a0 14 x8 ((gu M a0 13 x8 (M a0 13 (x8 - 1))) a0 14 (x8 - 1))) a0 15 (x8 - 1))) a0 16 x8 ((gu (gu (gu M a0 13 x8 (M a0 13 (x8 - 1))) a0 14 x8 ((gu M a0 13 x8 (M a0 13 (x8 - 1))) a0 14 (x8 - 1))) a0 15 x8 ((gu (gu M a0 13 x8 (M a0 13 (x8 - 1))) a0 14 x8 ((gu M a0 13 x8 (M a0 13 (x8 - 1))) a0 14 (x8 - 1))) a0 15 (x8 - 1))) a0 16 (x8 - 1))) a0 17 (x8 - 1))) a0 18 (x8 - 1))) a0 19 (x8 - 1))) h
  have t168 : ∀ (x8 : Int) (M : gM), wX7_add_168 kd ln post a0 a1 a2 a3 a4 a5 a6 a7 x8 M → gW p l e (gRm 0 0) s m args below meth c D cy A H0 Q 9 kd ln rh 0 0 M 168 [(0, .ref (gad a0)), (1, .int (gI a1)), (2, .int (gI a2)), (3, .int (gI a3)), (4, .int (gI a4)), (5, .int (gI a5)), (6, .int (gI a6)), (7, .int (gI a7)), (8, .int (gI x8))] [] := by
    intro  x8 M h
    unfold wX7_add_168 at h
    refine q_aload_n C 0 rfl rfl dX7_add_168 ?_
    obtain ⟨r62, h⟩ := h
    refine q_get (v := .ref (rh a0 13)) C fX7_42 hk0 (if_neg (Int.not_lt.mpr r62)) dX7_add_169 (fun g63 => ?_)
    refine q_iload C 8 rfl dX7_add_172 ?_
    refine q_iload_n C 1 rfl rfl dX7_add_174 ?_
    obtain ⟨r64, h⟩ := h
    obtain ⟨r65, h⟩ := h
    refine q_iast C hk0 rfl r65 r64 dX7_add_175 ?_
    refine q_aload_n C 0 rfl rfl dX7_add_176 ?_
    obtain ⟨r66, h⟩ := h
    refine q_get (v := .ref (rh a0 14)) C fX7_45 hk0 (if_neg (Int.not_lt.mpr r66)) dX7_add_177 (fun g67 => ?_)
    refine q_iload C 8 rfl dX7_add_180 ?_
    refine q_iload_n C 2 rfl rfl dX7_add_182 ?_
    obtain ⟨r68, h⟩ := h
    obtain ⟨r69, h⟩ := h
    refine q_iast C hk0 rfl r69 r68 dX7_add_183 ?_
    refine q_aload_n C 0 rfl rfl dX7_add_184 ?_
    obtain ⟨r70, h⟩ := h
    refine q_get (v := .ref (rh a0 15)) C fX7_48 hk0 (if_neg (Int.not_lt.mpr r70)) dX7_add_185 (fun g71 => ?_)
    refine q_iload C 8 rfl dX7_add_188 ?_
    refine q_iload_n C 3 rfl rfl dX7_add_190 ?_
    obtain ⟨r72, h⟩ := h
    obtain ⟨r73, h⟩ := h
    refine q_iast C hk0 rfl r73 r72 dX7_add_191 ?_
    refine q_aload_n C 0 rfl rfl dX7_add_192 ?_
    obtain ⟨r74, h⟩ := h
    refine q_get (v := .ref (rh a0 16)) C fX7_51 hk0 (if_neg (Int.not_lt.mpr r74)) dX7_add_193 (fun g75 => ?_)
    refine q_iload C 8 rfl dX7_add_196 ?_
    refine q_iload C 4 rfl dX7_add_198 ?_
    obtain ⟨r76, h⟩ := h
    obtain ⟨r77, h⟩ := h
    refine q_iast C hk0 rfl r77 r76 dX7_add_200 ?_
    refine q_aload_n C 0 rfl rfl dX7_add_201 ?_
    obtain ⟨r78, h⟩ := h
    refine q_get (v := .ref (rh a0 17)) C fX7_54 hk0 (if_neg (Int.not_lt.mpr r78)) dX7_add_202 (fun g79 => ?_)
    refine q_iload C 8 rfl dX7_add_205 ?_
    refine q_iload C 5 rfl dX7_add_207 ?_
    obtain ⟨r80, h⟩ := h
    obtain ⟨r81, h⟩ := h
    refine q_iast C hk0 rfl r81 r80 dX7_add_209 ?_
    refine q_aload_n C 0 rfl rfl dX7_add_210 ?_
    obtain ⟨r82, h⟩ := h
    refine q_get (v := .ref (rh a0 18)) C fX7_57 hk0 (if_neg (Int.not_lt.mpr r82)) dX7_add_211 (fun g83 => ?_)
    refine q_iload C 8 rfl dX7_add_214 ?_
    refine q_iload C 6 rfl dX7_add_216 ?_
    obtain ⟨r84, h⟩ := h
    obtain ⟨r85, h⟩ := h
    refine q_iast C hk0 rfl r85 r84 dX7_add_218 ?_
    refine q_aload_n C 0 rfl rfl dX7_add_219 ?_
    obtain ⟨r86, h⟩ := h
    refine q_get (v := .ref (rh a0 19)) C fX7_60 hk0 (if_neg (Int.not_lt.mpr r86)) dX7_add_220 (fun g87 => ?_)
    refine q_iload C 8 rfl dX7_add_223 ?_
    refine q_iload C 7 rfl dX7_add_225 ?_
    obtain ⟨r88, h⟩ := h
    obtain ⟨r89, h⟩ := h
    refine q_iast C hk0 rfl r89 r88 dX7_add_227 ?_
    refine q_aload_n C 0 rfl rfl dX7_add_228 ?_
    refine q_dup C rfl dX7_add_229 ?_
    refine q_get (v := .int (gI ((gu (gu (gu (gu (gu (gu (gu M a0 13 x8 a1) a0 14 x8 a2) a0 15 x8 a3) a0 16 x8 a4) a0 17 x8 a5) a0 18 x8 a6) a0 19 x8 a7) a0 12 (-1)))) C fX7_104 hk0 rfl dX7_add_230 (fun g90 => ?_)
    have h := h g90
    refine q_iconst C dX7_add_233 ?_
    refine q_iadd C dX7_add_234 ?_
    obtain ⟨r91, h⟩ := h
    refine q_put (x := (((gu (gu (gu (gu (gu (gu (gu M a0 13 x8 a1) a0 14 x8 a2) a0 15 x8 a3) a0 16 x8 a4) a0 17 x8 a5) a0 18 x8 a6) a0 19 x8 a7) a0 12 (-1)) + 1)) (ty := .int) C fX7_104 hk0 (fun _ _ _ q => by cases q; rfl) (congrArg (fun z => Value.int (gI z)) gu_s) rfl rfl r91 (fun j q => absurd (show (0 : Nat) = j + 3 from q) (by omega)) dX7_add_235 ?_
    exact hret (gu (gu (gu (gu (gu (gu (gu (gu M a0 13 x8 a1) a0 14 x8 a2) a0 15 x8 a3) a0 16 x8 a4) a0 17 x8 a5) a0 18 x8 a6) a0 19 x8 a7) a0 12 (-1) (((gu (gu (gu (gu (gu (gu (gu M a0 13 x8 a1) a0 14 x8 a2) a0 15 x8 a3) a0 16 x8 a4) a0 17 x8 a5) a0 18 x8 a6) a0 19 x8 a7) a0 12 (-1)) + 1)) _ _ dX7_add_238 h
  have t6 : ∀ (n : Nat) (x8 : Int) (M : gM), wX7_add_6 kd ln post a0 a1 a2 a3 a4 a5 a6 a7 n x8 M → gW p l e (gRm 0 0) s m args below meth c D cy A H0 Q 9 kd ln rh 0 0 M 6 [(0, .ref (gad a0)), (1, .int (gI a1)), (2, .int (gI a2)), (3, .int (gI a3)), (4, .int (gI a4)), (5, .int (gI a5)), (6, .int (gI a6)), (7, .int (gI a7)), (8, .int (gI x8))] [] := by
    intro n
    induction n with
    | zero => intro x8 M h; exact absurd h (by simp [wX7_add_6])
    | succ n ih =>
      intro x8 M h
      have hk6_ := ih
      rw [wX7_add_6] at h
      refine q_iload C 8 rfl dX7_add_6 ?_
      obtain ⟨r3, h⟩ := h
      refine q_if_le (tgt := 168) C r3 (by decide) dX7_add_8 (fun b4 => ?_) (fun b4 => ?_)
      · have h := h.1 b4
        exact t168  x8 M h
      · have h := h.2 b4
        refine q_aload_n C 0 rfl rfl dX7_add_11 ?_
        obtain ⟨r5, h⟩ := h
        refine q_get (v := .ref (rh a0 13)) C fX7_42 hk0 (if_neg (Int.not_lt.mpr r5)) dX7_add_12 (fun g6 => ?_)
        refine q_iload C 8 rfl dX7_add_15 ?_
        refine q_iconst C dX7_add_17 ?_
        refine q_isub C dX7_add_18 ?_
        obtain ⟨r7, h⟩ := h
        refine q_iald C hk0 rfl (fun _ q => q) r7 dX7_add_19 (fun g8 => ?_)
        have h := h g8
        refine q_iload_n C 1 rfl rfl dX7_add_20 ?_
        obtain ⟨r9, h⟩ := h
        refine q_icmp_gt (tgt := 50) C g8 r9 (by decide) dX7_add_21 (fun b10 => ?_) (fun b10 => ?_)
        · have h := h.1 b10
          exact t50 (wX7_add_6 kd ln post a0 a1 a2 a3 a4 a5 a6 a7 n) hk6_ x8 M h
        · have h := h.2 b10
          refine q_aload_n C 0 rfl rfl dX7_add_24 ?_
          refine q_get (v := .ref (rh a0 13)) C fX7_42 hk0 (if_neg (Int.not_lt.mpr r5)) dX7_add_25 (fun g11 => ?_)
          refine q_iload C 8 rfl dX7_add_28 ?_
          refine q_iconst C dX7_add_30 ?_
          refine q_isub C dX7_add_31 ?_
          refine q_iald C hk0 rfl (fun _ q => q) r7 dX7_add_32 (fun g12 => ?_)
          refine q_iload_n C 1 rfl rfl dX7_add_33 ?_
          refine q_icmp_ne (tgt := 168) C g8 r9 (by decide) dX7_add_34 (fun b13 => ?_) (fun b13 => ?_)
          · have h := h.1 b13
            exact t168  x8 M h
          · have h := h.2 b13
            refine q_aload_n C 0 rfl rfl dX7_add_37 ?_
            obtain ⟨r14, h⟩ := h
            refine q_get (v := .ref (rh a0 14)) C fX7_45 hk0 (if_neg (Int.not_lt.mpr r14)) dX7_add_38 (fun g15 => ?_)
            refine q_iload C 8 rfl dX7_add_41 ?_
            refine q_iconst C dX7_add_43 ?_
            refine q_isub C dX7_add_44 ?_
            obtain ⟨r16, h⟩ := h
            refine q_iald C hk0 rfl (fun _ q => q) r16 dX7_add_45 (fun g17 => ?_)
            have h := h g17
            refine q_iload_n C 2 rfl rfl dX7_add_46 ?_
            obtain ⟨r18, h⟩ := h
            refine q_icmp_le (tgt := 168) C g17 r18 (by decide) dX7_add_47 (fun b19 => ?_) (fun b19 => ?_)
            · have h := h.1 b19
              exact t168  x8 M h
            · have h := h.2 b19
              exact t50 (wX7_add_6 kd ln post a0 a1 a2 a3 a4 a5 a6 a7 n) hk6_ x8 M h
  unfold wX7_add at h
  refine q_aload_n C 0 rfl rfl dX7_add_0 ?_
  refine q_get (v := .int (gI (M a0 12 (-1)))) C fX7_104 hk0 rfl dX7_add_1 (fun g1 => ?_)
  have h := h g1
  refine q_topi (fun v2 ev2 => ?_)
  have h := h v2 ev2
  have gv2 : rng v2 := by rw [ev2]; exact g1
  refine q_istore (lv' := [(8, .int (gI v2)), (0, .ref (gad a0)), (1, .int (gI a1)), (2, .int (gI a2)), (3, .int (gI a3)), (4, .int (gI a4)), (5, .int (gI a5)), (6, .int (gI a6)), (7, .int (gI a7))]) C (by decide) rfl dX7_add_4 ?_
  refine q_lv (lv' := [(0, .ref (gad a0)), (1, .int (gI a1)), (2, .int (gI a2)), (3, .int (gI a3)), (4, .int (gI a4)), (5, .int (gI a5)), (6, .int (gI a6)), (7, .int (gI a7)), (8, .int (gI v2))]) [1, 2, 3, 4, 5, 6, 7, 8, 0] rfl ?_
  obtain ⟨j6, h⟩ := h
  exact t6  j6 v2 M h
set_option maxHeartbeats 4000000 in
set_option maxRecDepth 100000 in
theorem mX7_key (l : Launch) (D : va_G) (cy : Nat → ClassId) (kd : gKd) (ln : gLn) (rh : gRh) (post : Int → gM → Prop) (a0 : Int) (a1 : Int) (a2 : Int) (a3 : Int) (a4 : Int) (M : gM) (hk0 : kd a0 = 7) (h : wX7_key kd ln post a0 a1 a2 a3 a4 M) : gMI l D cy yX7_key cX7_key 5 .int 0 0 [.ref (gad a0), .int (gI a1), .int (gI a2), .int (gI a3), .int (gI a4)] kd ln rh M post := by
  refine gMI_of (own := RX7) (by decide) rfl (Nat.le_of_ble_eq_true rfl) ?_
  intro p e s m args below meth c A H0 Q C hret
  unfold wX7_key at h
  refine q_iconst C dX7_key_0 ?_
  refine q_iload_n C 1 rfl rfl dX7_key_1 ?_
  refine q_aload_n C 0 rfl rfl dX7_key_2 ?_
  refine q_get (v := .int (gI (M a0 2 (-1)))) C fX7_13 hk0 rfl dX7_key_3 (fun g1 => ?_)
  have h := h g1
  refine q_imul C dX7_key_6 ?_
  refine q_iload_n C 2 rfl rfl dX7_key_7 ?_
  refine q_iadd C dX7_key_8 ?_
  refine q_aload_n C 0 rfl rfl dX7_key_9 ?_
  refine q_get (v := .int (gI (M a0 2 (-1)))) C fX7_13 hk0 rfl dX7_key_10 (fun g2 => ?_)
  refine q_imul C dX7_key_13 ?_
  refine q_iload_n C 3 rfl rfl dX7_key_14 ?_
  refine q_iadd C dX7_key_15 ?_
  refine q_imul C dX7_key_16 ?_
  refine q_iload C 4 rfl dX7_key_17 ?_
  refine q_iadd C dX7_key_19 ?_
  obtain ⟨r3, h⟩ := h
  exact hret ((2 * ((((a1 * (M a0 2 (-1))) + a2) * (M a0 2 (-1))) + a3)) + a4) M _ _ dX7_key_20 r3 h
set_option maxHeartbeats 4000000 in
set_option maxRecDepth 100000 in
theorem mX7_distanceOf (l : Launch) (D : va_G) (cy : Nat → ClassId) (kd : gKd) (ln : gLn) (rh : gRh) (post : Int → gM → Prop) (a0 : Int) (a1 : Int) (a2 : Int) (a3 : Int) (a4 : Int) (a5 : Int) (M : gM) (hk0 : kd a0 = 7) (h : wX7_distanceOf kd ln post a0 a1 a2 a3 a4 a5 M) : gMI l D cy yX7_distanceOf cX7_distanceOf 6 .int 1 24 [.ref (gad a0), .int (gI a1), .int (gI a2), .int (gI a3), .int (gI a4), .int (gI a5)] kd ln rh M post := by
  refine gMI_of (own := RX7) (by decide) rfl (Nat.le_of_ble_eq_true rfl) ?_
  intro p e s m args below meth c A H0 Q C hret
  unfold wX7_distanceOf at h
  refine q_iload_n C 1 rfl rfl dX7_distanceOf_0 ?_
  refine q_iconst C dX7_distanceOf_1 ?_
  obtain ⟨r1, h⟩ := h
  refine q_icmp_ne (tgt := 9) C r1 (show rng (-1) by decide) (by decide) dX7_distanceOf_2 (fun b2 => ?_) (fun b2 => ?_)
  · have h := h.1 b2
    refine q_aload_n C 0 rfl rfl dX7_distanceOf_9 ?_
    obtain ⟨r3, h⟩ := h
    refine q_get (v := .ref (rh a0 4)) C fX7_21 hk0 (if_neg (Int.not_lt.mpr r3)) dX7_distanceOf_10 (fun g4 => ?_)
    refine q_ldc (n := 524288) C nX7_118 (by decide) dX7_distanceOf_13 ?_
    refine q_iload_n C 1 rfl rfl dX7_distanceOf_15 ?_
    refine q_imul C dX7_distanceOf_16 ?_
    refine q_aload_n C 0 rfl rfl dX7_distanceOf_17 ?_
    refine q_iload_n C 2 rfl rfl dX7_distanceOf_18 ?_
    refine q_iload_n C 3 rfl rfl dX7_distanceOf_19 ?_
    refine q_iload C 4 rfl dX7_distanceOf_20 ?_
    refine q_iload C 5 rfl dX7_distanceOf_22 ?_
    refine q_callVI (As := [.int (gI a2), .int (gI a3), .int (gI a4), .int (gI a5)]) (st := [.int (gI (524288 * a1)), .ref (rh a0 4)]) C vX7_119 kX7_key ⟨Nat.le_of_ble_eq_true rfl, Nat.le_of_ble_eq_true rfl⟩ ⟨Nat.le_of_ble_eq_true rfl, Nat.le_of_ble_eq_true rfl⟩ rfl hk0 ⟨_, _, rfl⟩ (by decide) rfl (Nat.le_of_ble_eq_true rfl) (mX7_key l D cy kd ln rh _ a0 a2 a3 a4 a5 M hk0 h) dX7_distanceOf_24 (fun c6 M5 g7 h => ?_)
    have h := h g7
    refine q_iadd C dX7_distanceOf_27 ?_
    obtain ⟨r8, h⟩ := h
    refine q_bald C hk0 rfl (fun _ q => q) r8 dX7_distanceOf_28 (fun g9 => ?_)
    have h := h g9
    refine q_iconst C dX7_distanceOf_29 ?_
    refine q_isub C dX7_distanceOf_30 ?_
    obtain ⟨r10, h⟩ := h
    exact hret ((M5 a0 4 ((524288 * a1) + c6)) - 1) M5 _ _ dX7_distanceOf_31 r10 h
  · have h := h.2 b2
    refine q_iconst C dX7_distanceOf_5 ?_
    refine q_goto (tgt := 31) C (by decide) dX7_distanceOf_6 ?_
    exact hret (-1) M _ _ dX7_distanceOf_31 (show rng (-1) by decide) h
set_option maxHeartbeats 4000000 in
set_option maxRecDepth 100000 in
theorem mX7_after (l : Launch) (D : va_G) (cy : Nat → ClassId) (kd : gKd) (ln : gLn) (rh : gRh) (post : Int → gM → Prop) (a0 : Int) (a1 : Int) (a2 : Int) (M : gM) (hk0 : kd a0 = 7) (h : wX7_after kd ln post a0 a1 a2 M) : gMI l D cy yX7_after cX7_after 3 .int 2 49 [.ref (gad a0), .int (gI a1), .int (gI a2)] kd ln rh M post := by
  refine gMI_of (own := RX7) (by decide) rfl (Nat.le_of_ble_eq_true rfl) ?_
  intro p e s m args below meth c A H0 Q C hret
  unfold wX7_after at h
  refine q_aload_n C 0 rfl rfl dX7_after_0 ?_
  refine q_aload_n C 0 rfl rfl dX7_after_1 ?_
  obtain ⟨r1, h⟩ := h
  refine q_get (v := .ref (rh a0 16)) C fX7_51 hk0 (if_neg (Int.not_lt.mpr r1)) dX7_after_2 (fun g2 => ?_)
  refine q_iload_n C 1 rfl rfl dX7_after_5 ?_
  obtain ⟨r3, h⟩ := h
  refine q_iald C hk0 rfl (fun _ q => q) r3 dX7_after_6 (fun g4 => ?_)
  have h := h g4
  refine q_aload_n C 0 rfl rfl dX7_after_7 ?_
  obtain ⟨r5, h⟩ := h
  refine q_get (v := .ref (rh a0 17)) C fX7_54 hk0 (if_neg (Int.not_lt.mpr r5)) dX7_after_8 (fun g6 => ?_)
  refine q_iload_n C 1 rfl rfl dX7_after_11 ?_
  obtain ⟨r7, h⟩ := h
  refine q_iald C hk0 rfl (fun _ q => q) r7 dX7_after_12 (fun g8 => ?_)
  have h := h g8
  refine q_aload_n C 0 rfl rfl dX7_after_13 ?_
  obtain ⟨r9, h⟩ := h
  refine q_get (v := .ref (rh a0 18)) C fX7_57 hk0 (if_neg (Int.not_lt.mpr r9)) dX7_after_14 (fun g10 => ?_)
  refine q_iload_n C 1 rfl rfl dX7_after_17 ?_
  obtain ⟨r11, h⟩ := h
  refine q_iald C hk0 rfl (fun _ q => q) r11 dX7_after_18 (fun g12 => ?_)
  have h := h g12
  refine q_aload_n C 0 rfl rfl dX7_after_19 ?_
  obtain ⟨r13, h⟩ := h
  refine q_get (v := .ref (rh a0 19)) C fX7_60 hk0 (if_neg (Int.not_lt.mpr r13)) dX7_after_20 (fun g14 => ?_)
  refine q_iload_n C 1 rfl rfl dX7_after_23 ?_
  obtain ⟨r15, h⟩ := h
  refine q_iald C hk0 rfl (fun _ q => q) r15 dX7_after_24 (fun g16 => ?_)
  have h := h g16
  refine q_iconst C dX7_after_25 ?_
  refine q_iload_n C 2 rfl rfl dX7_after_26 ?_
  refine q_isub C dX7_after_27 ?_
  refine q_callVI (As := [.int (gI (M a0 16 a1)), .int (gI (M a0 17 a1)), .int (gI (M a0 18 a1)), .int (gI (M a0 19 a1)), .int (gI (1 - a2))]) (st := []) C vX7_123 kX7_distanceOf ⟨Nat.le_of_ble_eq_true rfl, Nat.le_of_ble_eq_true rfl⟩ ⟨Nat.le_of_ble_eq_true rfl, Nat.le_of_ble_eq_true rfl⟩ rfl hk0 ⟨_, _, rfl⟩ (by decide) rfl (Nat.le_of_ble_eq_true rfl) (mX7_distanceOf l D cy kd ln rh _ a0 (M a0 16 a1) (M a0 17 a1) (M a0 18 a1) (M a0 19 a1) (1 - a2) M hk0 h) dX7_after_28 (fun c18 M17 g19 h => ?_)
  have h := h g19
  exact hret c18 M17 _ _ dX7_after_31 g19 h
set_option maxHeartbeats 4000000 in
set_option maxRecDepth 100000 in
theorem mX7_in (l : Launch) (D : va_G) (cy : Nat → ClassId) (kd : gKd) (ln : gLn) (rh : gRh) (post : Int → gM → Prop) (a0 : Int) (a1 : Int) (a2 : Int) (M : gM)  (h : wX7_in kd ln post a0 a1 a2 M) : gMI l D cy yX7_in cX7_in 3 .boolean 0 0 [.int (gI a0), .int (gI a1), .int (gI a2)] kd ln rh M post := by
  refine gMI_ofZ (own := RX7) (by decide) rfl (Nat.le_of_ble_eq_true rfl) ?_
  intro p e s m args below meth c A H0 Q C hret
  unfold wX7_in at h
  refine q_iload_n C 0 rfl rfl dX7_in_0 ?_
  refine q_iload_n C 1 rfl rfl dX7_in_1 ?_
  obtain ⟨r1, h⟩ := h
  obtain ⟨r2, h⟩ := h
  refine q_icmp_lt (tgt := 14) C r1 r2 (by decide) dX7_in_2 (fun b3 => ?_) (fun b3 => ?_)
  · have h := h.1 b3
    refine q_iconst C dX7_in_14 ?_
    exact hret 0 M _ _ dX7_in_15 (Or.inl rfl) h
  · have h := h.2 b3
    refine q_iload_n C 0 rfl rfl dX7_in_5 ?_
    refine q_iload_n C 2 rfl rfl dX7_in_6 ?_
    obtain ⟨r4, h⟩ := h
    refine q_icmp_gt (tgt := 14) C r1 r4 (by decide) dX7_in_7 (fun b5 => ?_) (fun b5 => ?_)
    · have h := h.1 b5
      refine q_iconst C dX7_in_14 ?_
      exact hret 0 M _ _ dX7_in_15 (Or.inl rfl) h
    · have h := h.2 b5
      refine q_iconst C dX7_in_10 ?_
      refine q_goto (tgt := 15) C (by decide) dX7_in_11 ?_
      exact hret 1 M _ _ dX7_in_15 (Or.inr rfl) h
set_option maxHeartbeats 4000000 in
set_option maxRecDepth 100000 in
theorem mX7_off (l : Launch) (D : va_G) (cy : Nat → ClassId) (kd : gKd) (ln : gLn) (rh : gRh) (post : Int → gM → Prop) (a0 : Int) (a1 : Int) (a2 : Int) (a3 : Int) (M : gM) (hk0 : kd a0 = 7) (h : wX7_off kd ln post a0 a1 a2 a3 M) : gMI l D cy yX7_off cX7_off 6 .int 1 22 [.ref (gad a0), .int (gI a1), .int (gI a2), .int (gI a3)] kd ln rh M post := by
  refine gMI_of (own := RX7) (by decide) rfl (Nat.le_of_ble_eq_true rfl) ?_
  intro p e s m args below meth c A H0 Q C hret
  unfold wX7_off at h
  refine q_iload_n C 1 rfl rfl dX7_off_0 ?_
  refine q_aload_n C 0 rfl rfl dX7_off_1 ?_
  refine q_get (v := .int (gI (M a0 1 (-1)))) C fX7_7 hk0 rfl dX7_off_2 (fun g1 => ?_)
  have h := h g1
  obtain ⟨r2, h⟩ := h
  refine q_irem C r2 dX7_off_5 ?_
  refine q_iload_n C 2 rfl rfl dX7_off_6 ?_
  refine q_iadd C dX7_off_7 ?_
  refine q_topi (fun v3 ev3 => ?_)
  have h := h v3 ev3
  refine q_istore (lv' := [(4, .int (gI v3)), (0, .ref (gad a0)), (1, .int (gI a1)), (2, .int (gI a2)), (3, .int (gI a3))]) C (by decide) rfl dX7_off_8 ?_
  refine q_iload_n C 2 rfl rfl dX7_off_10 ?_
  refine q_aload_n C 1 rfl rfl dX7_off_11 ?_
  refine q_get (v := .int (gI (M a0 1 (-1)))) C fX7_7 hk0 rfl dX7_off_12 (fun g4 => ?_)
  refine q_idiv C r2 dX7_off_15 ?_
  refine q_iload_n C 4 rfl rfl dX7_off_16 ?_
  refine q_iadd C dX7_off_17 ?_
  refine q_topi (fun v5 ev5 => ?_)
  have h := h v5 ev5
  refine q_istore (lv' := [(5, .int (gI v5)), (4, .int (gI v3)), (0, .ref (gad a0)), (1, .int (gI a1)), (2, .int (gI a2)), (3, .int (gI a3))]) C (by decide) rfl dX7_off_18 ?_
  refine q_iload C 1 rfl dX7_off_20 ?_
  refine q_iconst C dX7_off_22 ?_
  refine q_aload_n C 2 rfl rfl dX7_off_23 ?_
  refine q_get (v := .int (gI (M a0 1 (-1)))) C fX7_7 hk0 rfl dX7_off_24 (fun g6 => ?_)
  refine q_iconst C dX7_off_27 ?_
  refine q_isub C dX7_off_28 ?_
  refine q_callSI (As := [.int (gI v3), .int (gI 0), .int (gI ((M a0 1 (-1)) - 1))]) (st := []) C vX7_84 kX7_in ⟨Nat.le_of_ble_eq_true rfl, Nat.le_of_ble_eq_true rfl⟩ ⟨Nat.le_of_ble_eq_true rfl, Nat.le_of_ble_eq_true rfl⟩ rfl rfl (Nat.le_of_ble_eq_true rfl) (mX7_in l D cy kd ln rh _ v3 0 ((M a0 1 (-1)) - 1) M  h) dX7_off_29 (fun c8 M7 g9 h => ?_)
  have h := h g9
  refine q_if_eq (tgt := 63) C g9 (by decide) dX7_off_32 (fun b10 => ?_) (fun b10 => ?_)
  · have h := h.1 b10
    refine q_iconst C dX7_off_63 ?_
    exact hret (-1) M7 _ _ dX7_off_64 (show rng (-1) by decide) h
  · have h := h.2 b10
    refine q_iload C 0 rfl dX7_off_35 ?_
    refine q_iconst C dX7_off_37 ?_
    refine q_aload_n C 2 rfl rfl dX7_off_38 ?_
    refine q_get (v := .int (gI (M7 a0 1 (-1)))) C fX7_7 hk0 rfl dX7_off_39 (fun g11 => ?_)
    have h := h g11
    refine q_iconst C dX7_off_42 ?_
    refine q_isub C dX7_off_43 ?_
    refine q_callSI (As := [.int (gI v5), .int (gI 0), .int (gI ((M7 a0 1 (-1)) - 1))]) (st := []) C vX7_84 kX7_in ⟨Nat.le_of_ble_eq_true rfl, Nat.le_of_ble_eq_true rfl⟩ ⟨Nat.le_of_ble_eq_true rfl, Nat.le_of_ble_eq_true rfl⟩ rfl rfl (Nat.le_of_ble_eq_true rfl) (mX7_in l D cy kd ln rh _ v5 0 ((M7 a0 1 (-1)) - 1) M7  h) dX7_off_44 (fun c13 M12 g14 h => ?_)
    have h := h g14
    refine q_if_eq (tgt := 63) C g14 (by decide) dX7_off_47 (fun b15 => ?_) (fun b15 => ?_)
    · have h := h.1 b15
      refine q_iconst C dX7_off_63 ?_
      exact hret (-1) M12 _ _ dX7_off_64 (show rng (-1) by decide) h
    · have h := h.2 b15
      refine q_aload_n C 2 rfl rfl dX7_off_50 ?_
      refine q_get (v := .int (gI (M12 a0 1 (-1)))) C fX7_7 hk0 rfl dX7_off_51 (fun g16 => ?_)
      have h := h g16
      refine q_iload C 0 rfl dX7_off_54 ?_
      refine q_imul C dX7_off_56 ?_
      refine q_iload C 1 rfl dX7_off_57 ?_
      refine q_iadd C dX7_off_59 ?_
      refine q_goto (tgt := 64) C (by decide) dX7_off_60 ?_
      obtain ⟨r17, h⟩ := h
      exact hret (((M12 a0 1 (-1)) * v5) + v3) M12 _ _ dX7_off_64 r17 h
set_option maxHeartbeats 4000000 in
set_option maxRecDepth 100000 in
theorem mX7_isNext (l : Launch) (D : va_G) (cy : Nat → ClassId) (kd : gKd) (ln : gLn) (rh : gRh) (post : Int → gM → Prop) (a0 : Int) (a1 : Int) (a2 : Int) (M : gM) (hk0 : kd a0 = 7) (h : wX7_isNext kd ln post a0 a1 a2 M) : gMI l D cy yX7_isNext cX7_isNext 5 .boolean 1 22 [.ref (gad a0), .int (gI a1), .int (gI a2)] kd ln rh M post := by
  refine gMI_ofZ (own := RX7) (by decide) rfl (Nat.le_of_ble_eq_true rfl) ?_
  intro p e s m args below meth c A H0 Q C hret
  unfold wX7_isNext at h
  refine q_iload_n C 1 rfl rfl dX7_isNext_0 ?_
  refine q_aload_n C 0 rfl rfl dX7_isNext_1 ?_
  refine q_get (v := .int (gI (M a0 1 (-1)))) C fX7_7 hk0 rfl dX7_isNext_2 (fun g1 => ?_)
  have h := h g1
  obtain ⟨r2, h⟩ := h
  refine q_irem C r2 dX7_isNext_5 ?_
  refine q_iload_n C 2 rfl rfl dX7_isNext_6 ?_
  refine q_aload_n C 0 rfl rfl dX7_isNext_7 ?_
  refine q_get (v := .int (gI (M a0 1 (-1)))) C fX7_7 hk0 rfl dX7_isNext_8 (fun g3 => ?_)
  obtain ⟨r4, h⟩ := h
  refine q_irem C r4 dX7_isNext_11 ?_
  refine q_isub C dX7_isNext_12 ?_
  refine q_topi (fun v5 ev5 => ?_)
  have h := h v5 ev5
  refine q_istore_n (lv' := [(3, .int (gI v5)), (0, .ref (gad a0)), (1, .int (gI a1)), (2, .int (gI a2))]) C rfl (by decide) rfl dX7_isNext_13 ?_
  refine q_iload_n C 2 rfl rfl dX7_isNext_14 ?_
  refine q_aload_n C 1 rfl rfl dX7_isNext_15 ?_
  refine q_get (v := .int (gI (M a0 1 (-1)))) C fX7_7 hk0 rfl dX7_isNext_16 (fun g6 => ?_)
  refine q_idiv C r2 dX7_isNext_19 ?_
  refine q_iload_n C 3 rfl rfl dX7_isNext_20 ?_
  refine q_aload_n C 1 rfl rfl dX7_isNext_21 ?_
  refine q_get (v := .int (gI (M a0 1 (-1)))) C fX7_7 hk0 rfl dX7_isNext_22 (fun g7 => ?_)
  refine q_idiv C r4 dX7_isNext_25 ?_
  refine q_isub C dX7_isNext_26 ?_
  refine q_topi (fun v8 ev8 => ?_)
  have h := h v8 ev8
  refine q_istore (lv' := [(4, .int (gI v8)), (3, .int (gI v5)), (0, .ref (gad a0)), (1, .int (gI a1)), (2, .int (gI a2))]) C (by decide) rfl dX7_isNext_27 ?_
  refine q_iload_n C 3 rfl rfl dX7_isNext_29 ?_
  refine q_iload_n C 4 rfl rfl dX7_isNext_30 ?_
  obtain ⟨r9, h⟩ := h
  obtain ⟨r10, h⟩ := h
  refine q_icmp_eq (tgt := 57) C r9 r10 (by decide) dX7_isNext_31 (fun b11 => ?_) (fun b11 => ?_)
  · have h := h.1 b11
    refine q_iconst C dX7_isNext_57 ?_
    exact hret 0 M _ _ dX7_isNext_58 (Or.inl rfl) h
  · have h := h.2 b11
    refine q_iload_n C 1 rfl rfl dX7_isNext_34 ?_
    refine q_iconst C dX7_isNext_35 ?_
    refine q_iconst C dX7_isNext_36 ?_
    refine q_callSI (As := [.int (gI v5), .int (gI (-1)), .int (gI 1)]) (st := []) C vX7_84 kX7_in ⟨Nat.le_of_ble_eq_true rfl, Nat.le_of_ble_eq_true rfl⟩ ⟨Nat.le_of_ble_eq_true rfl, Nat.le_of_ble_eq_true rfl⟩ rfl rfl (Nat.le_of_ble_eq_true rfl) (mX7_in l D cy kd ln rh _ v5 (-1) 1 M  h) dX7_isNext_37 (fun c13 M12 g14 h => ?_)
    have h := h g14
    refine q_if_eq (tgt := 57) C g14 (by decide) dX7_isNext_40 (fun b15 => ?_) (fun b15 => ?_)
    · have h := h.1 b15
      refine q_iconst C dX7_isNext_57 ?_
      exact hret 0 M12 _ _ dX7_isNext_58 (Or.inl rfl) h
    · have h := h.2 b15
      refine q_iload C 0 rfl dX7_isNext_43 ?_
      refine q_iconst C dX7_isNext_45 ?_
      refine q_iconst C dX7_isNext_46 ?_
      refine q_callSI (As := [.int (gI v8), .int (gI (-1)), .int (gI 1)]) (st := []) C vX7_84 kX7_in ⟨Nat.le_of_ble_eq_true rfl, Nat.le_of_ble_eq_true rfl⟩ ⟨Nat.le_of_ble_eq_true rfl, Nat.le_of_ble_eq_true rfl⟩ rfl rfl (Nat.le_of_ble_eq_true rfl) (mX7_in l D cy kd ln rh _ v8 (-1) 1 M12  h) dX7_isNext_47 (fun c17 M16 g18 h => ?_)
      have h := h g18
      refine q_if_eq (tgt := 57) C g18 (by decide) dX7_isNext_50 (fun b19 => ?_) (fun b19 => ?_)
      · have h := h.1 b19
        refine q_iconst C dX7_isNext_57 ?_
        exact hret 0 M16 _ _ dX7_isNext_58 (Or.inl rfl) h
      · have h := h.2 b19
        refine q_iconst C dX7_isNext_53 ?_
        refine q_goto (tgt := 58) C (by decide) dX7_isNext_54 ?_
        exact hret 1 M16 _ _ dX7_isNext_58 (Or.inr rfl) h
set_option maxHeartbeats 4000000 in
set_option maxRecDepth 100000 in
theorem mX7_sign (l : Launch) (D : va_G) (cy : Nat → ClassId) (kd : gKd) (ln : gLn) (rh : gRh) (post : Int → gM → Prop) (a0 : Int) (M : gM)  (h : wX7_sign kd ln post a0 M) : gMI l D cy yX7_sign cX7_sign 1 .int 0 0 [.int (gI a0)] kd ln rh M post := by
  refine gMI_of (own := RX7) (by decide) rfl (Nat.le_of_ble_eq_true rfl) ?_
  intro p e s m args below meth c A H0 Q C hret
  unfold wX7_sign at h
  refine q_iload_n C 0 rfl rfl dX7_sign_0 ?_
  obtain ⟨r1, h⟩ := h
  refine q_if_le (tgt := 8) C r1 (by decide) dX7_sign_1 (fun b2 => ?_) (fun b2 => ?_)
  · have h := h.1 b2
    refine q_iload_n C 0 rfl rfl dX7_sign_8 ?_
    refine q_if_ge (tgt := 16) C r1 (by decide) dX7_sign_9 (fun b3 => ?_) (fun b3 => ?_)
    · have h := h.1 b3
      refine q_iconst C dX7_sign_16 ?_
      exact hret 0 M _ _ dX7_sign_17 (show rng 0 by decide) h
    · have h := h.2 b3
      refine q_iconst C dX7_sign_12 ?_
      refine q_goto (tgt := 17) C (by decide) dX7_sign_13 ?_
      exact hret (-1) M _ _ dX7_sign_17 (show rng (-1) by decide) h
  · have h := h.2 b2
    refine q_iconst C dX7_sign_4 ?_
    refine q_goto (tgt := 17) C (by decide) dX7_sign_5 ?_
    exact hret 1 M _ _ dX7_sign_17 (show rng 1 by decide) h
set_option maxHeartbeats 4000000 in
set_option maxRecDepth 100000 in
theorem mX7_attacks (l : Launch) (D : va_G) (cy : Nat → ClassId) (kd : gKd) (ln : gLn) (rh : gRh) (post : Int → gM → Prop) (a0 : Int) (a1 : Int) (a2 : Int) (a3 : Int) (a4 : Int) (a5 : Int) (M : gM) (hk0 : kd a0 = 7) (h : wX7_attacks kd ln post a0 a1 a2 a3 a4 a5 M) : gMI l D cy yX7_attacks cX7_attacks 9 .boolean 2 47 [.ref (gad a0), .int (gI a1), .int (gI a2), .int (gI a3), .int (gI a4), .int (gI a5)] kd ln rh M post := by
  refine gMI_ofZ (own := RX7) (by decide) rfl (Nat.le_of_ble_eq_true rfl) ?_
  intro p e s m args below meth c A H0 Q C hret
  have t57 : ∀ (M : gM), wX7_attacks_57 kd ln post a0 a1 a2 a3 a4 a5  M → gW p l e (gRm 2 47) s m args below meth c D cy A H0 Q 9 kd ln rh 0 0 M 57 [] [] := by
    intro   M h
    unfold wX7_attacks_57 at h
    refine q_iconst C dX7_attacks_57 ?_
    refine q_goto (tgt := 62) C (by decide) dX7_attacks_58 ?_
    exact hret 1 M _ _ dX7_attacks_62 (Or.inr rfl) h
  have t120 : ∀ (n : Nat) (x6 : Int) (x7 : Int) (x8 : Int) (M : gM), wX7_attacks_120 kd ln post a0 a1 a2 a3 a4 a5 n x6 x7 x8 M → gW p l e (gRm 2 47) s m args below meth c D cy A H0 Q 9 kd ln rh 0 0 M 120 [(0, .ref (gad a0)), (2, .int (gI a2)), (3, .int (gI a3)), (5, .int (gI a5)), (6, .int (gI x6)), (7, .int (gI x7)), (8, .int (gI x8))] [] := by
    intro n
    induction n with
    | zero => intro x6 x7 x8 M h; exact absurd h (by simp [wX7_attacks_120])
    | succ n ih =>
      intro x6 x7 x8 M h
      have hk120_ := ih
      rw [wX7_attacks_120] at h
      refine q_iload C 6 rfl dX7_attacks_120 ?_
      refine q_iload C 3 rfl dX7_attacks_122 ?_
      obtain ⟨r36, h⟩ := h
      obtain ⟨r37, h⟩ := h
      refine q_icmp_eq (tgt := 162) C r36 r37 (by decide) dX7_attacks_124 (fun b38 => ?_) (fun b38 => ?_)
      · have h := h.1 b38
        refine q_iconst C dX7_attacks_162 ?_
        exact hret 1 M _ _ dX7_attacks_163 (Or.inr rfl) h
      · have h := h.2 b38
        refine q_iload C 6 rfl dX7_attacks_127 ?_
        refine q_iload_n C 1 rfl rfl dX7_attacks_129 ?_
        obtain ⟨r39, h⟩ := h
        refine q_icmp_eq (tgt := 139) C r36 r39 (by decide) dX7_attacks_130 (fun b40 => ?_) (fun b40 => ?_)
        · have h := h.1 b40
          refine q_iconst C dX7_attacks_139 ?_
          exact hret 0 M _ _ dX7_attacks_140 (Or.inl rfl) h
        · have h := h.2 b40
          refine q_iload C 6 rfl dX7_attacks_133 ?_
          refine q_iload_n C 2 rfl rfl dX7_attacks_135 ?_
          obtain ⟨r41, h⟩ := h
          refine q_icmp_ne (tgt := 141) C r36 r41 (by decide) dX7_attacks_136 (fun b42 => ?_) (fun b42 => ?_)
          · have h := h.1 b42
            refine q_aload_n C 0 rfl rfl dX7_attacks_141 ?_
            refine q_iload C 6 rfl dX7_attacks_142 ?_
            refine q_iload C 4 rfl dX7_attacks_144 ?_
            refine q_callSI (As := [.int (gI x6)]) (st := [.int (gI x8), .ref (gad a0)]) C vX7_88 kX7_sign ⟨Nat.le_of_ble_eq_true rfl, Nat.le_of_ble_eq_true rfl⟩ ⟨Nat.le_of_ble_eq_true rfl, Nat.le_of_ble_eq_true rfl⟩ rfl rfl (Nat.le_of_ble_eq_true rfl) (mX7_sign l D cy kd ln rh _ x6 M  h) dX7_attacks_146 (fun c44 M43 g45 h => ?_)
            have h := h g45
            refine q_iload C 5 rfl dX7_attacks_149 ?_
            refine q_callSI (As := [.int (gI x7)]) (st := [.int (gI c44), .int (gI x8), .ref (gad a0)]) C vX7_88 kX7_sign ⟨Nat.le_of_ble_eq_true rfl, Nat.le_of_ble_eq_true rfl⟩ ⟨Nat.le_of_ble_eq_true rfl, Nat.le_of_ble_eq_true rfl⟩ rfl rfl (Nat.le_of_ble_eq_true rfl) (mX7_sign l D cy kd ln rh _ x7 M43  h) dX7_attacks_151 (fun c47 M46 g48 h => ?_)
            have h := h g48
            refine q_callVI (As := [.int (gI x8), .int (gI c44), .int (gI c47)]) (st := []) C vX7_92 kX7_off ⟨Nat.le_of_ble_eq_true rfl, Nat.le_of_ble_eq_true rfl⟩ ⟨Nat.le_of_ble_eq_true rfl, Nat.le_of_ble_eq_true rfl⟩ rfl hk0 ⟨_, _, rfl⟩ (by decide) rfl (Nat.le_of_ble_eq_true rfl) (mX7_off l D cy kd ln rh _ a0 x8 c44 c47 M46 hk0 h) dX7_attacks_154 (fun c50 M49 g51 h => ?_)
            have h := h g51
            refine q_istore (lv' := [(8, .int (gI c50)), (0, .ref (gad a0)), (2, .int (gI a2)), (3, .int (gI a3)), (5, .int (gI a5)), (6, .int (gI x6)), (7, .int (gI x7))]) C (by decide) rfl dX7_attacks_157 ?_
            refine q_goto (tgt := 120) C (by decide) dX7_attacks_159 ?_
            refine q_lv (lv' := [(0, .ref (gad a0)), (2, .int (gI a2)), (3, .int (gI a3)), (5, .int (gI a5)), (6, .int (gI x6)), (7, .int (gI x7)), (8, .int (gI c50))]) [1, 2, 3, 4, 5, 6, 0] rfl ?_
            exact hk120_ x6 x7 c50 M49 h
          · have h := h.2 b42
            refine q_iconst C dX7_attacks_139 ?_
            exact hret 0 M _ _ dX7_attacks_140 (Or.inl rfl) h
  have t102 : ∀ (x6 : Int) (x7 : Int) (M : gM), wX7_attacks_102 kd ln post a0 a1 a2 a3 a4 a5 x6 x7 M → gW p l e (gRm 2 47) s m args below meth c D cy A H0 Q 9 kd ln rh 0 0 M 102 [(0, .ref (gad a0)), (2, .int (gI a2)), (3, .int (gI a3)), (4, .int (gI a4)), (5, .int (gI a5)), (6, .int (gI x6)), (7, .int (gI x7))] [] := by
    intro  x6 x7 M h
    unfold wX7_attacks_102 at h
    refine q_aload_n C 0 rfl rfl dX7_attacks_102 ?_
    refine q_iload C 3 rfl dX7_attacks_103 ?_
    refine q_iload C 5 rfl dX7_attacks_105 ?_
    refine q_callSI (As := [.int (gI x6)]) (st := [.int (gI a4), .ref (gad a0)]) C vX7_88 kX7_sign ⟨Nat.le_of_ble_eq_true rfl, Nat.le_of_ble_eq_true rfl⟩ ⟨Nat.le_of_ble_eq_true rfl, Nat.le_of_ble_eq_true rfl⟩ rfl rfl (Nat.le_of_ble_eq_true rfl) (mX7_sign l D cy kd ln rh _ x6 M  h) dX7_attacks_107 (fun c28 M27 g29 h => ?_)
    have h := h g29
    refine q_iload C 6 rfl dX7_attacks_110 ?_
    refine q_callSI (As := [.int (gI x7)]) (st := [.int (gI c28), .int (gI a4), .ref (gad a0)]) C vX7_88 kX7_sign ⟨Nat.le_of_ble_eq_true rfl, Nat.le_of_ble_eq_true rfl⟩ ⟨Nat.le_of_ble_eq_true rfl, Nat.le_of_ble_eq_true rfl⟩ rfl rfl (Nat.le_of_ble_eq_true rfl) (mX7_sign l D cy kd ln rh _ x7 M27  h) dX7_attacks_112 (fun c31 M30 g32 h => ?_)
    have h := h g32
    refine q_callVI (As := [.int (gI a4), .int (gI c28), .int (gI c31)]) (st := []) C vX7_92 kX7_off ⟨Nat.le_of_ble_eq_true rfl, Nat.le_of_ble_eq_true rfl⟩ ⟨Nat.le_of_ble_eq_true rfl, Nat.le_of_ble_eq_true rfl⟩ rfl hk0 ⟨_, _, rfl⟩ (by decide) rfl (Nat.le_of_ble_eq_true rfl) (mX7_off l D cy kd ln rh _ a0 a4 c28 c31 M30 hk0 h) dX7_attacks_115 (fun c34 M33 g35 h => ?_)
    have h := h g35
    refine q_istore (lv' := [(8, .int (gI c34)), (0, .ref (gad a0)), (2, .int (gI a2)), (3, .int (gI a3)), (4, .int (gI a4)), (5, .int (gI a5)), (6, .int (gI x6)), (7, .int (gI x7))]) C (by decide) rfl dX7_attacks_118 ?_
    refine q_lv (lv' := [(0, .ref (gad a0)), (2, .int (gI a2)), (3, .int (gI a3)), (5, .int (gI a5)), (6, .int (gI x6)), (7, .int (gI x7)), (8, .int (gI c34))]) [1, 2, 3, 5, 6, 7, 0] rfl ?_
    obtain ⟨j120, h⟩ := h
    exact t120  j120 x6 x7 c34 M33 h
  unfold wX7_attacks at h
  refine q_iload C 5 rfl dX7_attacks_0 ?_
  refine q_aload_n C 0 rfl rfl dX7_attacks_2 ?_
  refine q_get (v := .int (gI (M a0 1 (-1)))) C fX7_7 hk0 rfl dX7_attacks_3 (fun g1 => ?_)
  have h := h g1
  obtain ⟨r2, h⟩ := h
  refine q_irem C r2 dX7_attacks_6 ?_
  refine q_iload C 4 rfl dX7_attacks_7 ?_
  refine q_aload_n C 0 rfl rfl dX7_attacks_9 ?_
  refine q_get (v := .int (gI (M a0 1 (-1)))) C fX7_7 hk0 rfl dX7_attacks_10 (fun g3 => ?_)
  obtain ⟨r4, h⟩ := h
  refine q_irem C r4 dX7_attacks_13 ?_
  refine q_isub C dX7_attacks_14 ?_
  refine q_topi (fun v5 ev5 => ?_)
  have h := h v5 ev5
  refine q_istore (lv' := [(6, .int (gI v5)), (0, .ref (gad a0)), (1, .int (gI a1)), (2, .int (gI a2)), (3, .int (gI a3)), (4, .int (gI a4)), (5, .int (gI a5))]) C (by decide) rfl dX7_attacks_15 ?_
  refine q_iload C 6 rfl dX7_attacks_17 ?_
  refine q_aload_n C 1 rfl rfl dX7_attacks_19 ?_
  refine q_get (v := .int (gI (M a0 1 (-1)))) C fX7_7 hk0 rfl dX7_attacks_20 (fun g6 => ?_)
  refine q_idiv C r2 dX7_attacks_23 ?_
  refine q_iload C 5 rfl dX7_attacks_24 ?_
  refine q_aload_n C 1 rfl rfl dX7_attacks_26 ?_
  refine q_get (v := .int (gI (M a0 1 (-1)))) C fX7_7 hk0 rfl dX7_attacks_27 (fun g7 => ?_)
  refine q_idiv C r4 dX7_attacks_30 ?_
  refine q_isub C dX7_attacks_31 ?_
  refine q_topi (fun v8 ev8 => ?_)
  have h := h v8 ev8
  refine q_istore (lv' := [(7, .int (gI v8)), (6, .int (gI v5)), (0, .ref (gad a0)), (1, .int (gI a1)), (2, .int (gI a2)), (3, .int (gI a3)), (4, .int (gI a4)), (5, .int (gI a5))]) C (by decide) rfl dX7_attacks_32 ?_
  refine q_iload_n C 3 rfl rfl dX7_attacks_34 ?_
  refine q_iconst C dX7_attacks_35 ?_
  obtain ⟨r9, h⟩ := h
  refine q_icmp_ne (tgt := 63) C r9 (show rng 2 by decide) (by decide) dX7_attacks_36 (fun b10 => ?_) (fun b10 => ?_)
  · have h := h.1 b10
    refine q_iload C 7 rfl dX7_attacks_63 ?_
    refine q_iload C 6 rfl dX7_attacks_65 ?_
    obtain ⟨r11, h⟩ := h
    obtain ⟨r12, h⟩ := h
    refine q_icmp_eq (tgt := 100) C r11 r12 (by decide) dX7_attacks_67 (fun b13 => ?_) (fun b13 => ?_)
    · have h := h.1 b13
      refine q_iconst C dX7_attacks_100 ?_
      exact hret 0 M _ _ dX7_attacks_101 (Or.inl rfl) h
    · have h := h.2 b13
      refine q_iload C 1 rfl dX7_attacks_70 ?_
      obtain ⟨r14, h⟩ := h
      refine q_if_eq (tgt := 102) C r14 (by decide) dX7_attacks_72 (fun b15 => ?_) (fun b15 => ?_)
      · have h := h.1 b15
        refine q_lv (lv' := [(0, .ref (gad a0)), (2, .int (gI a2)), (3, .int (gI a3)), (4, .int (gI a4)), (5, .int (gI a5)), (6, .int (gI v5)), (7, .int (gI v8))]) [2, 4, 5, 6, 7, 1, 0] rfl ?_
        exact t102  v5 v8 M h
      · have h := h.2 b15
        refine q_iload C 0 rfl dX7_attacks_75 ?_
        obtain ⟨r16, h⟩ := h
        refine q_if_eq (tgt := 102) C r16 (by decide) dX7_attacks_77 (fun b17 => ?_) (fun b17 => ?_)
        · have h := h.1 b17
          refine q_lv (lv' := [(0, .ref (gad a0)), (2, .int (gI a2)), (3, .int (gI a3)), (4, .int (gI a4)), (5, .int (gI a5)), (6, .int (gI v5)), (7, .int (gI v8))]) [2, 4, 5, 6, 7, 1, 0] rfl ?_
          exact t102  v5 v8 M h
        · have h := h.2 b17
          refine q_iload_n C 3 rfl rfl dX7_attacks_80 ?_
          refine q_iconst C dX7_attacks_81 ?_
          refine q_icmp_eq (tgt := 100) C r9 (show rng 1 by decide) (by decide) dX7_attacks_82 (fun b18 => ?_) (fun b18 => ?_)
          · have h := h.1 b18
            refine q_iconst C dX7_attacks_100 ?_
            exact hret 0 M _ _ dX7_attacks_101 (Or.inl rfl) h
          · have h := h.2 b18
            refine q_iload C 1 rfl dX7_attacks_85 ?_
            refine q_iload C 0 rfl dX7_attacks_87 ?_
            refine q_icmp_eq (tgt := 102) C r14 r16 (by decide) dX7_attacks_89 (fun b19 => ?_) (fun b19 => ?_)
            · have h := h.1 b19
              refine q_lv (lv' := [(0, .ref (gad a0)), (2, .int (gI a2)), (3, .int (gI a3)), (4, .int (gI a4)), (5, .int (gI a5)), (6, .int (gI v5)), (7, .int (gI v8))]) [2, 4, 5, 6, 7, 1, 0] rfl ?_
              exact t102  v5 v8 M h
            · have h := h.2 b19
              refine q_iload C 1 rfl dX7_attacks_92 ?_
              refine q_iload C 0 rfl dX7_attacks_94 ?_
              refine q_ineg C dX7_attacks_96 ?_
              obtain ⟨r20, h⟩ := h
              refine q_icmp_eq (tgt := 102) C r14 r20 (by decide) dX7_attacks_97 (fun b21 => ?_) (fun b21 => ?_)
              · have h := h.1 b21
                refine q_lv (lv' := [(0, .ref (gad a0)), (2, .int (gI a2)), (3, .int (gI a3)), (4, .int (gI a4)), (5, .int (gI a5)), (6, .int (gI v5)), (7, .int (gI v8))]) [2, 4, 5, 6, 7, 1, 0] rfl ?_
                exact t102  v5 v8 M h
              · have h := h.2 b21
                refine q_iconst C dX7_attacks_100 ?_
                exact hret 0 M _ _ dX7_attacks_101 (Or.inl rfl) h
  · have h := h.2 b10
    refine q_iload C 0 rfl dX7_attacks_39 ?_
    refine q_iconst C dX7_attacks_41 ?_
    obtain ⟨r22, h⟩ := h
    refine q_icmp_ne (tgt := 61) C r22 (show rng 1 by decide) (by decide) dX7_attacks_42 (fun b23 => ?_) (fun b23 => ?_)
    · have h := h.1 b23
      refine q_iconst C dX7_attacks_61 ?_
      exact hret 0 M _ _ dX7_attacks_62 (Or.inl rfl) h
    · have h := h.2 b23
      refine q_iload C 1 rfl dX7_attacks_45 ?_
      refine q_iconst C dX7_attacks_47 ?_
      obtain ⟨r24, h⟩ := h
      refine q_icmp_eq (tgt := 57) C r24 (show rng 1 by decide) (by decide) dX7_attacks_48 (fun b25 => ?_) (fun b25 => ?_)
      · have h := h.1 b25
        refine q_lv (lv' := []) [] rfl ?_
        exact t57  M h
      · have h := h.2 b25
        refine q_iload C 1 rfl dX7_attacks_51 ?_
        refine q_iconst C dX7_attacks_53 ?_
        refine q_icmp_ne (tgt := 61) C r24 (show rng (-1) by decide) (by decide) dX7_attacks_54 (fun b26 => ?_) (fun b26 => ?_)
        · have h := h.1 b26
          refine q_iconst C dX7_attacks_61 ?_
          exact hret 0 M _ _ dX7_attacks_62 (Or.inl rfl) h
        · have h := h.2 b26
          refine q_lv (lv' := []) [] rfl ?_
          exact t57  M h
set_option maxHeartbeats 4000000 in
set_option maxRecDepth 100000 in
theorem mX7_legal (l : Launch) (D : va_G) (cy : Nat → ClassId) (kd : gKd) (ln : gLn) (rh : gRh) (post : Int → gM → Prop) (a0 : Int) (a1 : Int) (a2 : Int) (a3 : Int) (a4 : Int) (a5 : Int) (M : gM) (hk0 : kd a0 = 7) (h : wX7_legal kd ln post a0 a1 a2 a3 a4 a5 M) : gMI l D cy yX7_legal cX7_legal 6 .boolean 3 75 [.ref (gad a0), .int (gI a1), .int (gI a2), .int (gI a3), .int (gI a4), .int (gI a5)] kd ln rh M post := by
  refine gMI_ofZ (own := RX7) (by decide) rfl (Nat.le_of_ble_eq_true rfl) ?_
  intro p e s m args below meth c A H0 Q C hret
  have t74 : ∀ (M : gM), wX7_legal_74 kd ln post a0 a1 a2 a3 a4 a5  M → gW p l e (gRm 3 75) s m args below meth c D cy A H0 Q 6 kd ln rh 0 0 M 74 [] [] := by
    intro   M h
    unfold wX7_legal_74 at h
    refine q_iconst C dX7_legal_74 ?_
    refine q_goto (tgt := 79) C (by decide) dX7_legal_75 ?_
    exact hret 1 M _ _ dX7_legal_79 (Or.inr rfl) h
  have t55 : ∀ (M : gM), wX7_legal_55 kd ln post a0 a1 a2 a3 a4 a5  M → gW p l e (gRm 3 75) s m args below meth c D cy A H0 Q 6 kd ln rh 0 0 M 55 [(0, .ref (gad a0)), (1, .int (gI a1)), (2, .int (gI a2)), (3, .int (gI a3)), (4, .int (gI a4)), (5, .int (gI a5))] [] := by
    intro   M h
    unfold wX7_legal_55 at h
    refine q_iload C 5 rfl dX7_legal_55 ?_
    refine q_iconst C dX7_legal_57 ?_
    obtain ⟨r20, h⟩ := h
    refine q_icmp_eq (tgt := 74) C r20 (show rng 1 by decide) (by decide) dX7_legal_58 (fun b21 => ?_) (fun b21 => ?_)
    · have h := h.1 b21
      refine q_lv (lv' := []) [] rfl ?_
      exact t74  M h
    · have h := h.2 b21
      refine q_aload_n C 0 rfl rfl dX7_legal_61 ?_
      refine q_iload_n C 1 rfl rfl dX7_legal_62 ?_
      refine q_iload_n C 2 rfl rfl dX7_legal_63 ?_
      refine q_iload_n C 3 rfl rfl dX7_legal_64 ?_
      refine q_iload C 4 rfl dX7_legal_65 ?_
      refine q_iload_n C 3 rfl rfl dX7_legal_67 ?_
      refine q_callVI (As := [.int (gI a1), .int (gI a2), .int (gI a3), .int (gI a4), .int (gI a3)]) (st := []) C vX7_100 kX7_attacks ⟨Nat.le_of_ble_eq_true rfl, Nat.le_of_ble_eq_true rfl⟩ ⟨Nat.le_of_ble_eq_true rfl, Nat.le_of_ble_eq_true rfl⟩ rfl hk0 ⟨_, _, rfl⟩ (by decide) rfl (Nat.le_of_ble_eq_true rfl) (mX7_attacks l D cy kd ln rh _ a0 a1 a2 a3 a4 a3 M hk0 h) dX7_legal_68 (fun c23 M22 g24 h => ?_)
      have h := h g24
      refine q_if_ne (tgt := 78) C g24 (by decide) dX7_legal_71 (fun b25 => ?_) (fun b25 => ?_)
      · have h := h.1 b25
        refine q_iconst C dX7_legal_78 ?_
        exact hret 0 M22 _ _ dX7_legal_79 (Or.inl rfl) h
      · have h := h.2 b25
        refine q_lv (lv' := []) [] rfl ?_
        exact t74  M22 h
  unfold wX7_legal at h
  refine q_iload_n C 2 rfl rfl dX7_legal_0 ?_
  refine q_iload_n C 3 rfl rfl dX7_legal_1 ?_
  obtain ⟨r1, h⟩ := h
  obtain ⟨r2, h⟩ := h
  refine q_icmp_eq (tgt := 26) C r1 r2 (by decide) dX7_legal_2 (fun b3 => ?_) (fun b3 => ?_)
  · have h := h.1 b3
    refine q_iconst C dX7_legal_26 ?_
    exact hret 0 M _ _ dX7_legal_27 (Or.inl rfl) h
  · have h := h.2 b3
    refine q_iload_n C 2 rfl rfl dX7_legal_5 ?_
    refine q_iload C 4 rfl dX7_legal_6 ?_
    obtain ⟨r4, h⟩ := h
    refine q_icmp_eq (tgt := 26) C r1 r4 (by decide) dX7_legal_8 (fun b5 => ?_) (fun b5 => ?_)
    · have h := h.1 b5
      refine q_iconst C dX7_legal_26 ?_
      exact hret 0 M _ _ dX7_legal_27 (Or.inl rfl) h
    · have h := h.2 b5
      refine q_iload_n C 3 rfl rfl dX7_legal_11 ?_
      refine q_iload C 4 rfl dX7_legal_12 ?_
      refine q_icmp_eq (tgt := 26) C r2 r4 (by decide) dX7_legal_14 (fun b6 => ?_) (fun b6 => ?_)
      · have h := h.1 b6
        refine q_iconst C dX7_legal_26 ?_
        exact hret 0 M _ _ dX7_legal_27 (Or.inl rfl) h
      · have h := h.2 b6
        refine q_aload_n C 0 rfl rfl dX7_legal_17 ?_
        refine q_iload_n C 2 rfl rfl dX7_legal_18 ?_
        refine q_iload_n C 3 rfl rfl dX7_legal_19 ?_
        refine q_callVI (As := [.int (gI a2), .int (gI a3)]) (st := []) C vX7_96 kX7_isNext ⟨Nat.le_of_ble_eq_true rfl, Nat.le_of_ble_eq_true rfl⟩ ⟨Nat.le_of_ble_eq_true rfl, Nat.le_of_ble_eq_true rfl⟩ rfl hk0 ⟨_, _, rfl⟩ (by decide) rfl (Nat.le_of_ble_eq_true rfl) (mX7_isNext l D cy kd ln rh _ a0 a2 a3 M hk0 h) dX7_legal_20 (fun c8 M7 g9 h => ?_)
        have h := h g9
        refine q_if_eq (tgt := 28) C g9 (by decide) dX7_legal_23 (fun b10 => ?_) (fun b10 => ?_)
        · have h := h.1 b10
          refine q_iload_n C 1 rfl rfl dX7_legal_28 ?_
          refine q_iconst C dX7_legal_29 ?_
          obtain ⟨r11, h⟩ := h
          refine q_icmp_ne (tgt := 55) C r11 (show rng 2 by decide) (by decide) dX7_legal_30 (fun b12 => ?_) (fun b12 => ?_)
          · have h := h.1 b12
            exact t55  M7 h
          · have h := h.2 b12
            refine q_iload C 4 rfl dX7_legal_33 ?_
            refine q_aload_n C 0 rfl rfl dX7_legal_35 ?_
            refine q_get (v := .int (gI (M7 a0 1 (-1)))) C fX7_7 hk0 rfl dX7_legal_36 (fun g13 => ?_)
            have h := h g13
            obtain ⟨r14, h⟩ := h
            refine q_idiv C r14 dX7_legal_39 ?_
            refine q_iconst C dX7_legal_40 ?_
            refine q_aload_n C 0 rfl rfl dX7_legal_41 ?_
            refine q_get (v := .int (gI (M7 a0 1 (-1)))) C fX7_7 hk0 rfl dX7_legal_42 (fun g15 => ?_)
            refine q_iconst C dX7_legal_45 ?_
            refine q_isub C dX7_legal_46 ?_
            refine q_callSI (As := [.int (gI (a4 / (M7 a0 1 (-1)))), .int (gI 1), .int (gI ((M7 a0 1 (-1)) - 2))]) (st := []) C vX7_84 kX7_in ⟨Nat.le_of_ble_eq_true rfl, Nat.le_of_ble_eq_true rfl⟩ ⟨Nat.le_of_ble_eq_true rfl, Nat.le_of_ble_eq_true rfl⟩ rfl rfl (Nat.le_of_ble_eq_true rfl) (mX7_in l D cy kd ln rh _ (a4 / (M7 a0 1 (-1))) 1 ((M7 a0 1 (-1)) - 2) M7  h) dX7_legal_47 (fun c17 M16 g18 h => ?_)
            have h := h g18
            refine q_if_ne (tgt := 55) C g18 (by decide) dX7_legal_50 (fun b19 => ?_) (fun b19 => ?_)
            · have h := h.1 b19
              exact t55  M16 h
            · have h := h.2 b19
              refine q_iconst C dX7_legal_53 ?_
              exact hret 0 M16 _ _ dX7_legal_54 (Or.inl rfl) h
        · have h := h.2 b10
          refine q_iconst C dX7_legal_26 ?_
          exact hret 0 M7 _ _ dX7_legal_27 (Or.inl rfl) h
