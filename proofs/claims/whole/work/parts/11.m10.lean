set_option maxHeartbeats 4000000 in
set_option maxRecDepth 100000 in
theorem mX6_keyOfText (l : Launch) (D : va_G) (cy : Nat → ClassId) (kd : gKd) (ln : gLn) (rh : gRh) (post : Int → gM → Prop) (a0 : Int) (M : gM) (hk0 : kd a0 = 6) (h : wX6_keyOfText kd ln post a0 M) : gMI l D cy yX6_keyOfText cX6_keyOfText 8 .int 3 72 [.ref (gad a0)] kd ln rh M post := by
  refine gMI_of (own := RX6) (by decide) rfl (Nat.le_of_ble_eq_true rfl) ?_
  intro p e s m args below meth c A H0 Q C hret
  have t111 : ∀ (x1 : Int) (x2 : Int) (x3 : Int) (x4 : Int) (x5 : Int) (y0 : Int) (M : gM), wX6_keyOfText_111 kd ln post a0 x1 x2 x3 x4 x5 y0 M → gW p l e (gRm 3 72) s m args below meth c D cy A H0 Q 8 kd ln rh 0 0 M 111 [(0, .ref (gad a0)), (1, .int (gI x1)), (2, .int (gI x2)), (3, .int (gI x3)), (4, .int (gI x4)), (5, .int (gI x5))] [.int (gI y0)] := by
    intro  x1 x2 x3 x4 x5 y0 M h
    unfold wX6_keyOfText_111 at h
    refine q_istore (lv' := [(6, .int (gI y0)), (0, .ref (gad a0)), (1, .int (gI x1)), (2, .int (gI x2)), (3, .int (gI x3)), (4, .int (gI x4)), (5, .int (gI x5))]) C (by decide) rfl dX6_keyOfText_111 ?_
    refine q_iload C 0 rfl dX6_keyOfText_113 ?_
    obtain ⟨r43, h⟩ := h
    refine q_if_eq (tgt := 135) C r43 (by decide) dX6_keyOfText_115 (fun b44 => ?_) (fun b44 => ?_)
    · have h := h.1 b44
      refine q_iconst C dX6_keyOfText_135 ?_
      exact hret (-1) M _ _ dX6_keyOfText_136 (show rng (-1) by decide) h
    · have h := h.2 b44
      refine q_aload_n C 1 rfl rfl dX6_keyOfText_118 ?_
      refine q_get (v := gR (M a0 1 (-1))) C fX6_52 hk0 rfl dX6_keyOfText_119 (fun g45 => ?_)
      obtain ⟨r46, h⟩ := h
      refine q_nn r46 (by decide) ?_
      refine q_iload_n C 2 rfl rfl dX6_keyOfText_122 ?_
      refine q_iload_n C 4 rfl rfl dX6_keyOfText_123 ?_
      refine q_iload C 6 rfl dX6_keyOfText_124 ?_
      refine q_iload C 5 rfl dX6_keyOfText_126 ?_
      refine q_iload_n C 3 rfl rfl dX6_keyOfText_128 ?_
      refine q_callVI (As := [.int (gI x1), .int (gI x3), .int (gI x5), .int (gI x4), .int (gI x2)]) (st := []) C vX6_70 kX0_allows ⟨Nat.le_of_ble_eq_true rfl, Nat.le_of_ble_eq_true rfl⟩ ⟨Nat.le_of_ble_eq_true rfl, Nat.le_of_ble_eq_true rfl⟩ rfl r46 ⟨_, _, rfl⟩ (by decide) rfl (Nat.le_of_ble_eq_true rfl) (mX0_allows l D cy kd ln rh _ (M a0 1 (-1)) x1 x3 x5 x4 x2 M r46 h) dX6_keyOfText_129 (fun c48 M47 g49 h => ?_)
      have h := h g49
      refine q_if_ne (tgt := 137) C g49 (by decide) dX6_keyOfText_132 (fun b50 => ?_) (fun b50 => ?_)
      · have h := h.1 b50
        refine q_aload_n C 1 rfl rfl dX6_keyOfText_137 ?_
        refine q_get (v := gR (M47 a0 1 (-1))) C fX6_52 hk0 rfl dX6_keyOfText_138 (fun g51 => ?_)
        obtain ⟨r52, h⟩ := h
        refine q_nn r52 (by decide) ?_
        refine q_get (v := .int (gI (M47 (M47 a0 1 (-1)) 1 (-1)))) C fX6_251 r52 rfl dX6_keyOfText_141 (fun g53 => ?_)
        have h := h g53
        refine q_topi (fun v54 ev54 => ?_)
        have h := h v54 ev54
        have gv54 : rng v54 := by rw [ev54]; exact g53
        refine q_istore (lv' := [(7, .int (gI v54)), (6, .int (gI y0)), (0, .ref (gad a0)), (1, .int (gI x1)), (2, .int (gI x2)), (3, .int (gI x3)), (4, .int (gI x4)), (5, .int (gI x5))]) C (by decide) rfl dX6_keyOfText_144 ?_
        refine q_iconst C dX6_keyOfText_146 ?_
        refine q_iload_n C 3 rfl rfl dX6_keyOfText_147 ?_
        refine q_iload C 0 rfl dX6_keyOfText_148 ?_
        refine q_imul C dX6_keyOfText_150 ?_
        refine q_iload_n C 5 rfl rfl dX6_keyOfText_151 ?_
        refine q_iadd C dX6_keyOfText_152 ?_
        refine q_iload C 0 rfl dX6_keyOfText_153 ?_
        refine q_imul C dX6_keyOfText_155 ?_
        refine q_iload C 7 rfl dX6_keyOfText_156 ?_
        refine q_iadd C dX6_keyOfText_158 ?_
        refine q_iload C 0 rfl dX6_keyOfText_159 ?_
        refine q_imul C dX6_keyOfText_161 ?_
        refine q_iload C 6 rfl dX6_keyOfText_162 ?_
        refine q_iadd C dX6_keyOfText_164 ?_
        refine q_imul C dX6_keyOfText_165 ?_
        refine q_iload_n C 4 rfl rfl dX6_keyOfText_166 ?_
        refine q_iadd C dX6_keyOfText_167 ?_
        obtain ⟨r55, h⟩ := h
        exact hret ((2 * ((((((x1 * v54) + x3) * v54) + x5) * v54) + x4)) + x2) M47 _ _ dX6_keyOfText_168 r55 h
      · have h := h.2 b50
        refine q_iconst C dX6_keyOfText_135 ?_
        exact hret (-1) M47 _ _ dX6_keyOfText_136 (show rng (-1) by decide) h
  have t110 : ∀ (x1 : Int) (x2 : Int) (x3 : Int) (x4 : Int) (x5 : Int) (M : gM), wX6_keyOfText_110 kd ln post a0 x1 x2 x3 x4 x5 M → gW p l e (gRm 3 72) s m args below meth c D cy A H0 Q 8 kd ln rh 0 0 M 110 [(0, .ref (gad a0)), (1, .int (gI x1)), (2, .int (gI x2)), (3, .int (gI x3)), (4, .int (gI x4)), (5, .int (gI x5))] [] := by
    intro  x1 x2 x3 x4 x5 M h
    unfold wX6_keyOfText_110 at h
    refine q_iconst C dX6_keyOfText_110 ?_
    exact t111  x1 x2 x3 x4 x5 0 M h
  unfold wX6_keyOfText at h
  refine q_gets (t := 0) C (Or.inl ⟨rfl, rfl⟩) zX6_180 dX6_keyOfText_0 ?_
  refine q_aload_n C 0 rfl rfl dX6_keyOfText_3 ?_
  obtain ⟨r1, h⟩ := h
  refine q_get (v := .ref (rh a0 9)) C fX6_43 hk0 (if_neg (Int.not_lt.mpr r1)) dX6_keyOfText_4 (fun g2 => ?_)
  refine q_iconst C dX6_keyOfText_7 ?_
  obtain ⟨r3, h⟩ := h
  refine q_iald C hk0 rfl (fun _ q => q) r3 dX6_keyOfText_8 (fun g4 => ?_)
  have h := h g4
  refine q_callSI (As := [.ref (cy (20 + 0)), .int (gI (M a0 9 4))]) (st := []) C vX6_244 kX6_letterAt ⟨Nat.le_of_ble_eq_true rfl, Nat.le_of_ble_eq_true rfl⟩ ⟨Nat.le_of_ble_eq_true rfl, Nat.le_of_ble_eq_true rfl⟩ rfl rfl (Nat.le_of_ble_eq_true rfl) (mX6_letterAt l D cy kd ln rh _ 0 (M a0 9 4) M (by decide) h) dX6_keyOfText_9 (fun c6 M5 g7 h => ?_)
  have h := h g7
  refine q_istore_n (lv' := [(1, .int (gI c6)), (0, .ref (gad a0))]) C rfl (by decide) rfl dX6_keyOfText_12 ?_
  refine q_gets (t := 1) C (Or.inr ⟨rfl, rfl⟩) zX6_184 dX6_keyOfText_13 ?_
  refine q_aload_n C 1 rfl rfl dX6_keyOfText_16 ?_
  refine q_get (v := .ref (rh a0 9)) C fX6_43 hk0 (if_neg (Int.not_lt.mpr r1)) dX6_keyOfText_17 (fun g8 => ?_)
  refine q_bipush C (by decide) dX6_keyOfText_20 ?_
  obtain ⟨r9, h⟩ := h
  refine q_iald C hk0 rfl (fun _ q => q) r9 dX6_keyOfText_22 (fun g10 => ?_)
  have h := h g10
  refine q_callSI (As := [.ref (cy (20 + 1)), .int (gI (M5 a0 9 12))]) (st := []) C vX6_244 kX6_letterAt ⟨Nat.le_of_ble_eq_true rfl, Nat.le_of_ble_eq_true rfl⟩ ⟨Nat.le_of_ble_eq_true rfl, Nat.le_of_ble_eq_true rfl⟩ rfl rfl (Nat.le_of_ble_eq_true rfl) (mX6_letterAt l D cy kd ln rh _ 1 (M5 a0 9 12) M5 (by decide) h) dX6_keyOfText_23 (fun c12 M11 g13 h => ?_)
  have h := h g13
  refine q_istore_n (lv' := [(2, .int (gI c12)), (1, .int (gI c6)), (0, .ref (gad a0))]) C rfl (by decide) rfl dX6_keyOfText_26 ?_
  refine q_aload_n C 2 rfl rfl dX6_keyOfText_27 ?_
  refine q_iconst C dX6_keyOfText_28 ?_
  refine q_callVI (As := [.int (gI 1)]) (st := []) C vX6_248 kX6_squareOfText ⟨Nat.le_of_ble_eq_true rfl, Nat.le_of_ble_eq_true rfl⟩ ⟨Nat.le_of_ble_eq_true rfl, Nat.le_of_ble_eq_true rfl⟩ rfl hk0 ⟨_, _, rfl⟩ (by decide) rfl (Nat.le_of_ble_eq_true rfl) (mX6_squareOfText l D cy kd ln rh _ a0 1 M11 hk0 h) dX6_keyOfText_29 (fun c15 M14 g16 h => ?_)
  have h := h g16
  refine q_istore_n (lv' := [(3, .int (gI c15)), (2, .int (gI c12)), (1, .int (gI c6)), (0, .ref (gad a0))]) C rfl (by decide) rfl dX6_keyOfText_32 ?_
  refine q_aload_n C 3 rfl rfl dX6_keyOfText_33 ?_
  refine q_iconst C dX6_keyOfText_34 ?_
  refine q_callVI (As := [.int (gI 5)]) (st := []) C vX6_248 kX6_squareOfText ⟨Nat.le_of_ble_eq_true rfl, Nat.le_of_ble_eq_true rfl⟩ ⟨Nat.le_of_ble_eq_true rfl, Nat.le_of_ble_eq_true rfl⟩ rfl hk0 ⟨_, _, rfl⟩ (by decide) rfl (Nat.le_of_ble_eq_true rfl) (mX6_squareOfText l D cy kd ln rh _ a0 5 M14 hk0 h) dX6_keyOfText_35 (fun c18 M17 g19 h => ?_)
  have h := h g19
  refine q_istore (lv' := [(4, .int (gI c18)), (3, .int (gI c15)), (2, .int (gI c12)), (1, .int (gI c6)), (0, .ref (gad a0))]) C (by decide) rfl dX6_keyOfText_38 ?_
  refine q_aload_n C 4 rfl rfl dX6_keyOfText_40 ?_
  refine q_bipush C (by decide) dX6_keyOfText_41 ?_
  refine q_callVI (As := [.int (gI 9)]) (st := []) C vX6_248 kX6_squareOfText ⟨Nat.le_of_ble_eq_true rfl, Nat.le_of_ble_eq_true rfl⟩ ⟨Nat.le_of_ble_eq_true rfl, Nat.le_of_ble_eq_true rfl⟩ rfl hk0 ⟨_, _, rfl⟩ (by decide) rfl (Nat.le_of_ble_eq_true rfl) (mX6_squareOfText l D cy kd ln rh _ a0 9 M17 hk0 h) dX6_keyOfText_43 (fun c21 M20 g22 h => ?_)
  have h := h g22
  refine q_istore (lv' := [(5, .int (gI c21)), (4, .int (gI c18)), (3, .int (gI c15)), (2, .int (gI c12)), (1, .int (gI c6)), (0, .ref (gad a0))]) C (by decide) rfl dX6_keyOfText_46 ?_
  refine q_aload_n C 5 rfl rfl dX6_keyOfText_48 ?_
  refine q_get (v := .ref (rh a0 9)) C fX6_43 hk0 (if_neg (Int.not_lt.mpr r1)) dX6_keyOfText_49 (fun g23 => ?_)
  refine q_iconst C dX6_keyOfText_52 ?_
  obtain ⟨r24, h⟩ := h
  refine q_iald C hk0 rfl (fun _ q => q) r24 dX6_keyOfText_53 (fun g25 => ?_)
  have h := h g25
  refine q_bipush C (by decide) dX6_keyOfText_54 ?_
  refine q_icmp_ne (tgt := 110) C g25 (show rng 75 by decide) (by decide) dX6_keyOfText_56 (fun b26 => ?_) (fun b26 => ?_)
  · have h := h.1 b26
    refine q_lv (lv' := [(0, .ref (gad a0)), (1, .int (gI c6)), (2, .int (gI c12)), (3, .int (gI c15)), (4, .int (gI c18)), (5, .int (gI c21))]) [5, 4, 3, 2, 1, 0] rfl ?_
    exact t110  c6 c12 c15 c18 c21 M20 h
  · have h := h.2 b26
    refine q_aload_n C 5 rfl rfl dX6_keyOfText_59 ?_
    refine q_get (v := .ref (rh a0 9)) C fX6_43 hk0 (if_neg (Int.not_lt.mpr r1)) dX6_keyOfText_60 (fun g27 => ?_)
    refine q_iconst C dX6_keyOfText_63 ?_
    obtain ⟨r28, h⟩ := h
    refine q_iald C hk0 rfl (fun _ q => q) r28 dX6_keyOfText_64 (fun g29 => ?_)
    have h := h g29
    refine q_bipush C (by decide) dX6_keyOfText_65 ?_
    refine q_icmp_ne (tgt := 110) C g29 (show rng 32 by decide) (by decide) dX6_keyOfText_67 (fun b30 => ?_) (fun b30 => ?_)
    · have h := h.1 b30
      refine q_lv (lv' := [(0, .ref (gad a0)), (1, .int (gI c6)), (2, .int (gI c12)), (3, .int (gI c15)), (4, .int (gI c18)), (5, .int (gI c21))]) [5, 4, 3, 2, 1, 0] rfl ?_
      exact t110  c6 c12 c15 c18 c21 M20 h
    · have h := h.2 b30
      refine q_aload_n C 5 rfl rfl dX6_keyOfText_70 ?_
      refine q_get (v := .ref (rh a0 9)) C fX6_43 hk0 (if_neg (Int.not_lt.mpr r1)) dX6_keyOfText_71 (fun g31 => ?_)
      refine q_bipush C (by decide) dX6_keyOfText_74 ?_
      obtain ⟨r32, h⟩ := h
      refine q_iald C hk0 rfl (fun _ q => q) r32 dX6_keyOfText_76 (fun g33 => ?_)
      have h := h g33
      refine q_bipush C (by decide) dX6_keyOfText_77 ?_
      refine q_icmp_ne (tgt := 110) C g33 (show rng 32 by decide) (by decide) dX6_keyOfText_79 (fun b34 => ?_) (fun b34 => ?_)
      · have h := h.1 b34
        refine q_lv (lv' := [(0, .ref (gad a0)), (1, .int (gI c6)), (2, .int (gI c12)), (3, .int (gI c15)), (4, .int (gI c18)), (5, .int (gI c21))]) [5, 4, 3, 2, 1, 0] rfl ?_
        exact t110  c6 c12 c15 c18 c21 M20 h
      · have h := h.2 b34
        refine q_aload_n C 5 rfl rfl dX6_keyOfText_82 ?_
        refine q_get (v := .ref (rh a0 9)) C fX6_43 hk0 (if_neg (Int.not_lt.mpr r1)) dX6_keyOfText_83 (fun g35 => ?_)
        refine q_bipush C (by decide) dX6_keyOfText_86 ?_
        obtain ⟨r36, h⟩ := h
        refine q_iald C hk0 rfl (fun _ q => q) r36 dX6_keyOfText_88 (fun g37 => ?_)
        have h := h g37
        refine q_bipush C (by decide) dX6_keyOfText_89 ?_
        refine q_icmp_ne (tgt := 110) C g37 (show rng 107 by decide) (by decide) dX6_keyOfText_91 (fun b38 => ?_) (fun b38 => ?_)
        · have h := h.1 b38
          refine q_lv (lv' := [(0, .ref (gad a0)), (1, .int (gI c6)), (2, .int (gI c12)), (3, .int (gI c15)), (4, .int (gI c18)), (5, .int (gI c21))]) [5, 4, 3, 2, 1, 0] rfl ?_
          exact t110  c6 c12 c15 c18 c21 M20 h
        · have h := h.2 b38
          refine q_aload_n C 5 rfl rfl dX6_keyOfText_94 ?_
          refine q_get (v := .ref (rh a0 9)) C fX6_43 hk0 (if_neg (Int.not_lt.mpr r1)) dX6_keyOfText_95 (fun g39 => ?_)
          refine q_bipush C (by decide) dX6_keyOfText_98 ?_
          obtain ⟨r40, h⟩ := h
          refine q_iald C hk0 rfl (fun _ q => q) r40 dX6_keyOfText_100 (fun g41 => ?_)
          have h := h g41
          refine q_bipush C (by decide) dX6_keyOfText_101 ?_
          refine q_icmp_ne (tgt := 110) C g41 (show rng 32 by decide) (by decide) dX6_keyOfText_103 (fun b42 => ?_) (fun b42 => ?_)
          · have h := h.1 b42
            refine q_lv (lv' := [(0, .ref (gad a0)), (1, .int (gI c6)), (2, .int (gI c12)), (3, .int (gI c15)), (4, .int (gI c18)), (5, .int (gI c21))]) [5, 4, 3, 2, 1, 0] rfl ?_
            exact t110  c6 c12 c15 c18 c21 M20 h
          · have h := h.2 b42
            refine q_iconst C dX6_keyOfText_106 ?_
            refine q_goto (tgt := 111) C (by decide) dX6_keyOfText_107 ?_
            refine q_lv (lv' := [(0, .ref (gad a0)), (1, .int (gI c6)), (2, .int (gI c12)), (3, .int (gI c15)), (4, .int (gI c18)), (5, .int (gI c21))]) [5, 4, 3, 2, 1, 0] rfl ?_
            exact t111  c6 c12 c15 c18 c21 1 M20 h
set_option maxHeartbeats 4000000 in
set_option maxRecDepth 100000 in
theorem mX6_read (l : Launch) (D : va_G) (cy : Nat → ClassId) (kd : gKd) (ln : gLn) (rh : gRh) (post : Int → gM → Prop) (a0 : Int) (a1 : Int) (M : gM) (hk0 : kd a0 = 6) (h : wX6_read kd ln post a0 a1 M) : gMI l D cy yX6_read cX6_read 2 .int 4 99 [.ref (gad a0), .int (gI a1)] kd ln rh M post := by
  refine gMI_of (own := RX6) (by decide) rfl (Nat.le_of_ble_eq_true rfl) ?_
  intro p e s m args below meth c A H0 Q C hret
  unfold wX6_read at h
  refine q_iload_n C 1 rfl rfl dX6_read_0 ?_
  obtain ⟨r1, h⟩ := h
  refine q_if_lt (tgt := 12) C r1 (by decide) dX6_read_1 (fun b2 => ?_) (fun b2 => ?_)
  · have h := h.1 b2
    refine q_bipush C (by decide) dX6_read_12 ?_
    exact hret (-2) M _ _ dX6_read_14 (show rng (-2) by decide) h
  · have h := h.2 b2
    refine q_iload_n C 1 rfl rfl dX6_read_4 ?_
    refine q_aload_n C 0 rfl rfl dX6_read_5 ?_
    refine q_get (v := .int (gI (M a0 10 (-1)))) C fX6_167 hk0 rfl dX6_read_6 (fun g3 => ?_)
    have h := h g3
    refine q_icmp_le (tgt := 15) C r1 g3 (by decide) dX6_read_9 (fun b4 => ?_) (fun b4 => ?_)
    · have h := h.1 b4
      refine q_aload_n C 0 rfl rfl dX6_read_15 ?_
      refine q_iconst C dX6_read_16 ?_
      refine q_put (x := 0) (ty := .int) C fX6_167 hk0 (fun _ _ _ q => by cases q; rfl) (congrArg (fun z => Value.int (gI z)) gu_s) rfl rfl (show rng 0 by decide) (fun j q => absurd (show (0 : Nat) = j + 3 from q) (by omega)) dX6_read_17 ?_
      refine q_iload_n C 1 rfl rfl dX6_read_20 ?_
      refine q_bipush C (by decide) dX6_read_21 ?_
      refine q_icmp_ne (tgt := 33) C r1 (show rng 13 by decide) (by decide) dX6_read_23 (fun b5 => ?_) (fun b5 => ?_)
      · have h := h.1 b5
        refine q_iconst C dX6_read_33 ?_
        exact hret (-1) (gu M a0 10 (-1) 0) _ _ dX6_read_34 (show rng (-1) by decide) h
      · have h := h.2 b5
        refine q_aload_n C 0 rfl rfl dX6_read_26 ?_
        refine q_callVI (As := []) (st := []) C vX6_173 kX6_keyOfText ⟨Nat.le_of_ble_eq_true rfl, Nat.le_of_ble_eq_true rfl⟩ ⟨Nat.le_of_ble_eq_true rfl, Nat.le_of_ble_eq_true rfl⟩ rfl hk0 ⟨_, _, rfl⟩ (by decide) rfl (Nat.le_of_ble_eq_true rfl) (mX6_keyOfText l D cy kd ln rh _ a0 (gu M a0 10 (-1) 0) hk0 h) dX6_read_27 (fun c7 M6 g8 h => ?_)
        have h := h g8
        refine q_goto (tgt := 34) C (by decide) dX6_read_30 ?_
        exact hret c7 M6 _ _ dX6_read_34 g8 h
    · have h := h.2 b4
      refine q_bipush C (by decide) dX6_read_12 ?_
      exact hret (-2) M _ _ dX6_read_14 (show rng (-2) by decide) h
set_option maxHeartbeats 4000000 in
set_option maxRecDepth 100000 in
theorem mX7_squareAt (l : Launch) (D : va_G) (cy : Nat → ClassId) (kd : gKd) (ln : gLn) (rh : gRh) (post : Int → gM → Prop) (a0 : Int) (a1 : Int) (M : gM) (hk0 : kd a0 = 7) (h : wX7_squareAt kd ln post a0 a1 M) : gMI l D cy yX7_squareAt cX7_squareAt 4 .int 1 22 [.ref (gad a0), .int (gI a1)] kd ln rh M post := by
  refine gMI_of (own := RX7) (by decide) rfl (Nat.le_of_ble_eq_true rfl) ?_
  intro p e s m args below meth c A H0 Q C hret
  unfold wX7_squareAt at h
  refine q_aload_n C 0 rfl rfl dX7_squareAt_0 ?_
  obtain ⟨r1, h⟩ := h
  refine q_get (v := .ref (rh a0 8)) C fX7_36 hk0 (if_neg (Int.not_lt.mpr r1)) dX7_squareAt_1 (fun g2 => ?_)
  refine q_iload_n C 1 rfl rfl dX7_squareAt_4 ?_
  obtain ⟨r3, h⟩ := h
  refine q_bald C hk0 rfl (fun _ q => q) r3 dX7_squareAt_5 (fun g4 => ?_)
  have h := h g4
  refine q_bipush C (by decide) dX7_squareAt_6 ?_
  refine q_isub C dX7_squareAt_8 ?_
  refine q_topi (fun v5 ev5 => ?_)
  have h := h v5 ev5
  refine q_istore_n (lv' := [(2, .int (gI v5)), (0, .ref (gad a0)), (1, .int (gI a1))]) C rfl (by decide) rfl dX7_squareAt_9 ?_
  refine q_aload_n C 1 rfl rfl dX7_squareAt_10 ?_
  refine q_get (v := .ref (rh a0 8)) C fX7_36 hk0 (if_neg (Int.not_lt.mpr r1)) dX7_squareAt_11 (fun g6 => ?_)
  refine q_iload_n C 2 rfl rfl dX7_squareAt_14 ?_
  refine q_iconst C dX7_squareAt_15 ?_
  refine q_iadd C dX7_squareAt_16 ?_
  obtain ⟨r7, h⟩ := h
  refine q_bald C hk0 rfl (fun _ q => q) r7 dX7_squareAt_17 (fun g8 => ?_)
  have h := h g8
  refine q_bipush C (by decide) dX7_squareAt_18 ?_
  refine q_isub C dX7_squareAt_20 ?_
  refine q_topi (fun v9 ev9 => ?_)
  have h := h v9 ev9
  refine q_istore_n (lv' := [(3, .int (gI v9)), (2, .int (gI v5)), (0, .ref (gad a0)), (1, .int (gI a1))]) C rfl (by decide) rfl dX7_squareAt_21 ?_
  refine q_iload_n C 1 rfl rfl dX7_squareAt_22 ?_
  refine q_iconst C dX7_squareAt_23 ?_
  refine q_aload_n C 2 rfl rfl dX7_squareAt_24 ?_
  refine q_get (v := .int (gI (M a0 1 (-1)))) C fX7_7 hk0 rfl dX7_squareAt_25 (fun g10 => ?_)
  have h := h g10
  refine q_iconst C dX7_squareAt_28 ?_
  refine q_isub C dX7_squareAt_29 ?_
  refine q_callSI (As := [.int (gI v5), .int (gI 0), .int (gI ((M a0 1 (-1)) - 1))]) (st := []) C vX7_84 kX7_in ⟨Nat.le_of_ble_eq_true rfl, Nat.le_of_ble_eq_true rfl⟩ ⟨Nat.le_of_ble_eq_true rfl, Nat.le_of_ble_eq_true rfl⟩ rfl rfl (Nat.le_of_ble_eq_true rfl) (mX7_in l D cy kd ln rh _ v5 0 ((M a0 1 (-1)) - 1) M  h) dX7_squareAt_30 (fun c12 M11 g13 h => ?_)
  have h := h g13
  refine q_if_eq (tgt := 61) C g13 (by decide) dX7_squareAt_33 (fun b14 => ?_) (fun b14 => ?_)
  · have h := h.1 b14
    refine q_iconst C dX7_squareAt_61 ?_
    exact hret (-1) M11 _ _ dX7_squareAt_62 (show rng (-1) by decide) h
  · have h := h.2 b14
    refine q_iload_n C 0 rfl rfl dX7_squareAt_36 ?_
    refine q_iconst C dX7_squareAt_37 ?_
    refine q_aload_n C 2 rfl rfl dX7_squareAt_38 ?_
    refine q_get (v := .int (gI (M11 a0 1 (-1)))) C fX7_7 hk0 rfl dX7_squareAt_39 (fun g15 => ?_)
    have h := h g15
    refine q_iconst C dX7_squareAt_42 ?_
    refine q_isub C dX7_squareAt_43 ?_
    refine q_callSI (As := [.int (gI v9), .int (gI 0), .int (gI ((M11 a0 1 (-1)) - 1))]) (st := []) C vX7_84 kX7_in ⟨Nat.le_of_ble_eq_true rfl, Nat.le_of_ble_eq_true rfl⟩ ⟨Nat.le_of_ble_eq_true rfl, Nat.le_of_ble_eq_true rfl⟩ rfl rfl (Nat.le_of_ble_eq_true rfl) (mX7_in l D cy kd ln rh _ v9 0 ((M11 a0 1 (-1)) - 1) M11  h) dX7_squareAt_44 (fun c17 M16 g18 h => ?_)
    have h := h g18
    refine q_if_eq (tgt := 61) C g18 (by decide) dX7_squareAt_47 (fun b19 => ?_) (fun b19 => ?_)
    · have h := h.1 b19
      refine q_iconst C dX7_squareAt_61 ?_
      exact hret (-1) M16 _ _ dX7_squareAt_62 (show rng (-1) by decide) h
    · have h := h.2 b19
      refine q_aload_n C 2 rfl rfl dX7_squareAt_50 ?_
      refine q_get (v := .int (gI (M16 a0 1 (-1)))) C fX7_7 hk0 rfl dX7_squareAt_51 (fun g20 => ?_)
      have h := h g20
      refine q_iload_n C 0 rfl rfl dX7_squareAt_54 ?_
      refine q_imul C dX7_squareAt_55 ?_
      refine q_iload_n C 1 rfl rfl dX7_squareAt_56 ?_
      refine q_iadd C dX7_squareAt_57 ?_
      refine q_goto (tgt := 62) C (by decide) dX7_squareAt_58 ?_
      obtain ⟨r21, h⟩ := h
      exact hret (((M16 a0 1 (-1)) * v9) + v5) M16 _ _ dX7_squareAt_62 r21 h
set_option maxHeartbeats 4000000 in
set_option maxRecDepth 100000 in
theorem mX7_read (l : Launch) (D : va_G) (cy : Nat → ClassId) (kd : gKd) (ln : gLn) (rh : gRh) (post : Int → gM → Prop) (a0 : Int) (a1 : Int) (M : gM) (hk0 : kd a0 = 7) (h : wX7_read kd ln post a0 a1 M) : gMI l D cy yX7_read cX7_read 7 .int 4 100 [.ref (gad a0), .int (gI a1)] kd ln rh M post := by
  refine gMI_of (own := RX7) (by decide) rfl (Nat.le_of_ble_eq_true rfl) ?_
  intro p e s m args below meth c A H0 Q C hret
  have t171 : ∀ (x2 : Int) (y0 : Int) (M : gM), wX7_read_171 kd ln post a0 a1 x2 y0 M → gW p l e (gRm 4 100) s m args below meth c D cy A H0 Q 7 kd ln rh 0 0 M 171 [(0, .ref (gad a0)), (2, .int (gI x2))] [.int (gI y0)] := by
    intro  x2 y0 M h
    unfold wX7_read_171 at h
    refine q_istore_n (lv' := [(3, .int (gI y0)), (0, .ref (gad a0)), (2, .int (gI x2))]) C rfl (by decide) rfl dX7_read_171 ?_
    refine q_aload_n C 1 rfl rfl dX7_read_172 ?_
    refine q_iconst C dX7_read_173 ?_
    refine q_callVI (As := [.int (gI 1)]) (st := []) C vX7_214 kX7_squareAt ⟨Nat.le_of_ble_eq_true rfl, Nat.le_of_ble_eq_true rfl⟩ ⟨Nat.le_of_ble_eq_true rfl, Nat.le_of_ble_eq_true rfl⟩ rfl hk0 ⟨_, _, rfl⟩ (by decide) rfl (Nat.le_of_ble_eq_true rfl) (mX7_squareAt l D cy kd ln rh _ a0 1 M hk0 h) dX7_read_174 (fun c48 M47 g49 h => ?_)
    have h := h g49
    refine q_istore (lv' := [(4, .int (gI c48)), (3, .int (gI y0)), (0, .ref (gad a0)), (2, .int (gI x2))]) C (by decide) rfl dX7_read_177 ?_
    refine q_aload_n C 2 rfl rfl dX7_read_179 ?_
    refine q_iconst C dX7_read_180 ?_
    refine q_callVI (As := [.int (gI 5)]) (st := []) C vX7_214 kX7_squareAt ⟨Nat.le_of_ble_eq_true rfl, Nat.le_of_ble_eq_true rfl⟩ ⟨Nat.le_of_ble_eq_true rfl, Nat.le_of_ble_eq_true rfl⟩ rfl hk0 ⟨_, _, rfl⟩ (by decide) rfl (Nat.le_of_ble_eq_true rfl) (mX7_squareAt l D cy kd ln rh _ a0 5 M47 hk0 h) dX7_read_181 (fun c51 M50 g52 h => ?_)
    have h := h g52
    refine q_istore (lv' := [(5, .int (gI c51)), (4, .int (gI c48)), (3, .int (gI y0)), (0, .ref (gad a0)), (2, .int (gI x2))]) C (by decide) rfl dX7_read_184 ?_
    refine q_aload_n C 3 rfl rfl dX7_read_186 ?_
    refine q_bipush C (by decide) dX7_read_187 ?_
    refine q_callVI (As := [.int (gI 9)]) (st := []) C vX7_214 kX7_squareAt ⟨Nat.le_of_ble_eq_true rfl, Nat.le_of_ble_eq_true rfl⟩ ⟨Nat.le_of_ble_eq_true rfl, Nat.le_of_ble_eq_true rfl⟩ rfl hk0 ⟨_, _, rfl⟩ (by decide) rfl (Nat.le_of_ble_eq_true rfl) (mX7_squareAt l D cy kd ln rh _ a0 9 M50 hk0 h) dX7_read_189 (fun c54 M53 g55 h => ?_)
    have h := h g55
    refine q_istore (lv' := [(6, .int (gI c54)), (5, .int (gI c51)), (4, .int (gI c48)), (3, .int (gI y0)), (0, .ref (gad a0)), (2, .int (gI x2))]) C (by decide) rfl dX7_read_192 ?_
    refine q_aload_n C 4 rfl rfl dX7_read_194 ?_
    refine q_iload_n C 5 rfl rfl dX7_read_195 ?_
    refine q_iload C 2 rfl dX7_read_196 ?_
    refine q_iload C 0 rfl dX7_read_198 ?_
    refine q_iload C 1 rfl dX7_read_200 ?_
    refine q_iload_n C 3 rfl rfl dX7_read_202 ?_
    refine q_callVI (As := [.int (gI x2), .int (gI c48), .int (gI c54), .int (gI c51), .int (gI y0)]) (st := []) C vX7_183 kX7_areNumbers ⟨Nat.le_of_ble_eq_true rfl, Nat.le_of_ble_eq_true rfl⟩ ⟨Nat.le_of_ble_eq_true rfl, Nat.le_of_ble_eq_true rfl⟩ rfl hk0 ⟨_, _, rfl⟩ (by decide) rfl (Nat.le_of_ble_eq_true rfl) (mX7_areNumbers l D cy kd ln rh _ a0 x2 c48 c54 c51 y0 M53 hk0 h) dX7_read_203 (fun c57 M56 g58 h => ?_)
    have h := h g58
    refine q_if_eq (tgt := 224) C g58 (by decide) dX7_read_206 (fun b59 => ?_) (fun b59 => ?_)
    · have h := h.1 b59
      refine q_iconst C dX7_read_224 ?_
      exact hret (-1) M56 _ _ dX7_read_225 (show rng (-1) by decide) h
    · have h := h.2 b59
      refine q_aload_n C 4 rfl rfl dX7_read_209 ?_
      refine q_iload_n C 5 rfl rfl dX7_read_210 ?_
      refine q_iload C 2 rfl dX7_read_211 ?_
      refine q_iload C 0 rfl dX7_read_213 ?_
      refine q_iload C 1 rfl dX7_read_215 ?_
      refine q_iload_n C 3 rfl rfl dX7_read_217 ?_
      refine q_callVI (As := [.int (gI x2), .int (gI c48), .int (gI c54), .int (gI c51), .int (gI y0)]) (st := []) C vX7_107 kX7_legal ⟨Nat.le_of_ble_eq_true rfl, Nat.le_of_ble_eq_true rfl⟩ ⟨Nat.le_of_ble_eq_true rfl, Nat.le_of_ble_eq_true rfl⟩ rfl hk0 ⟨_, _, rfl⟩ (by decide) rfl (Nat.le_of_ble_eq_true rfl) (mX7_legal l D cy kd ln rh _ a0 x2 c48 c54 c51 y0 M56 hk0 h) dX7_read_218 (fun c61 M60 g62 h => ?_)
      have h := h g62
      refine q_if_ne (tgt := 226) C g62 (by decide) dX7_read_221 (fun b63 => ?_) (fun b63 => ?_)
      · have h := h.1 b63
        refine q_aload_n C 4 rfl rfl dX7_read_226 ?_
        refine q_iload C 2 rfl dX7_read_227 ?_
        refine q_iload C 0 rfl dX7_read_229 ?_
        refine q_iload C 1 rfl dX7_read_231 ?_
        refine q_iload_n C 3 rfl rfl dX7_read_233 ?_
        refine q_callVI (As := [.int (gI c48), .int (gI c54), .int (gI c51), .int (gI y0)]) (st := []) C vX7_119 kX7_key ⟨Nat.le_of_ble_eq_true rfl, Nat.le_of_ble_eq_true rfl⟩ ⟨Nat.le_of_ble_eq_true rfl, Nat.le_of_ble_eq_true rfl⟩ rfl hk0 ⟨_, _, rfl⟩ (by decide) rfl (Nat.le_of_ble_eq_true rfl) (mX7_key l D cy kd ln rh _ a0 c48 c54 c51 y0 M60 hk0 h) dX7_read_234 (fun c65 M64 g66 h => ?_)
        have h := h g66
        refine q_iconst C dX7_read_237 ?_
        refine q_aload_n C 4 rfl rfl dX7_read_238 ?_
        refine q_get (v := .int (gI (M64 a0 2 (-1)))) C fX7_13 hk0 rfl dX7_read_239 (fun g67 => ?_)
        have h := h g67
        refine q_imul C dX7_read_242 ?_
        refine q_aload_n C 4 rfl rfl dX7_read_243 ?_
        refine q_get (v := .int (gI (M64 a0 2 (-1)))) C fX7_13 hk0 rfl dX7_read_244 (fun g68 => ?_)
        refine q_imul C dX7_read_247 ?_
        refine q_aload_n C 4 rfl rfl dX7_read_248 ?_
        refine q_get (v := .int (gI (M64 a0 2 (-1)))) C fX7_13 hk0 rfl dX7_read_249 (fun g69 => ?_)
        refine q_imul C dX7_read_252 ?_
        refine q_iload_n C 5 rfl rfl dX7_read_253 ?_
        refine q_imul C dX7_read_254 ?_
        refine q_iadd C dX7_read_255 ?_
        obtain ⟨r70, h⟩ := h
        exact hret (c65 + ((((2 * (M64 a0 2 (-1))) * (M64 a0 2 (-1))) * (M64 a0 2 (-1))) * x2)) M64 _ _ dX7_read_256 r70 h
      · have h := h.2 b63
        refine q_iconst C dX7_read_224 ?_
        exact hret (-1) M60 _ _ dX7_read_225 (show rng (-1) by decide) h
  have t137 : ∀ (y0 : Int) (M : gM), wX7_read_137 kd ln post a0 a1 y0 M → gW p l e (gRm 4 100) s m args below meth c D cy A H0 Q 7 kd ln rh 0 0 M 137 [(0, .ref (gad a0))] [.int (gI y0)] := by
    intro  y0 M h
    unfold wX7_read_137 at h
    refine q_istore_n (lv' := [(2, .int (gI y0)), (0, .ref (gad a0))]) C rfl (by decide) rfl dX7_read_137 ?_
    refine q_aload_n C 1 rfl rfl dX7_read_138 ?_
    obtain ⟨r39, h⟩ := h
    refine q_get (v := .ref (rh a0 8)) C fX7_36 hk0 (if_neg (Int.not_lt.mpr r39)) dX7_read_139 (fun g40 => ?_)
    refine q_bipush C (by decide) dX7_read_142 ?_
    obtain ⟨r41, h⟩ := h
    refine q_bald C hk0 rfl (fun _ q => q) r41 dX7_read_144 (fun g42 => ?_)
    have h := h g42
    refine q_bipush C (by decide) dX7_read_145 ?_
    refine q_icmp_ne (tgt := 154) C g42 (show rng 119 by decide) (by decide) dX7_read_147 (fun b43 => ?_) (fun b43 => ?_)
    · have h := h.1 b43
      refine q_aload_n C 1 rfl rfl dX7_read_154 ?_
      refine q_get (v := .ref (rh a0 8)) C fX7_36 hk0 (if_neg (Int.not_lt.mpr r39)) dX7_read_155 (fun g44 => ?_)
      refine q_bipush C (by decide) dX7_read_158 ?_
      refine q_bald C hk0 rfl (fun _ q => q) r41 dX7_read_160 (fun g45 => ?_)
      refine q_bipush C (by decide) dX7_read_161 ?_
      refine q_icmp_ne (tgt := 170) C g42 (show rng 98 by decide) (by decide) dX7_read_163 (fun b46 => ?_) (fun b46 => ?_)
      · have h := h.1 b46
        refine q_iconst C dX7_read_170 ?_
        refine q_lv (lv' := [(0, .ref (gad a0)), (2, .int (gI y0))]) [1, 0] rfl ?_
        exact t171  y0 (-1) M h
      · have h := h.2 b46
        refine q_iconst C dX7_read_166 ?_
        refine q_goto (tgt := 171) C (by decide) dX7_read_167 ?_
        refine q_lv (lv' := [(0, .ref (gad a0)), (2, .int (gI y0))]) [1, 0] rfl ?_
        exact t171  y0 1 M h
    · have h := h.2 b43
      refine q_iconst C dX7_read_150 ?_
      refine q_goto (tgt := 171) C (by decide) dX7_read_151 ?_
      refine q_lv (lv' := [(0, .ref (gad a0)), (2, .int (gI y0))]) [1, 0] rfl ?_
      exact t171  y0 0 M h
  unfold wX7_read at h
  refine q_aload_n C 0 rfl rfl dX7_read_0 ?_
  refine q_iconst C dX7_read_1 ?_
  refine q_put (x := 0) (ty := .int) C fX7_81 hk0 (fun _ _ _ q => by cases q; rfl) (congrArg (fun z => Value.int (gI z)) gu_s) rfl rfl (show rng 0 by decide) (fun j q => absurd (show (0 : Nat) = j + 3 from q) (by omega)) dX7_read_2 ?_
  refine q_iload_n C 1 rfl rfl dX7_read_5 ?_
  refine q_iconst C dX7_read_6 ?_
  refine q_aload_n C 0 rfl rfl dX7_read_7 ?_
  refine q_get (v := .int (gI ((gu M a0 0 (-1) 0) a0 9 (-1)))) C fX7_208 hk0 rfl dX7_read_8 (fun g1 => ?_)
  have h := h g1
  refine q_callSI (As := [.int (gI a1), .int (gI 0), .int (gI ((gu M a0 0 (-1) 0) a0 9 (-1)))]) (st := []) C vX7_84 kX7_in ⟨Nat.le_of_ble_eq_true rfl, Nat.le_of_ble_eq_true rfl⟩ ⟨Nat.le_of_ble_eq_true rfl, Nat.le_of_ble_eq_true rfl⟩ rfl rfl (Nat.le_of_ble_eq_true rfl) (mX7_in l D cy kd ln rh _ a1 0 ((gu M a0 0 (-1) 0) a0 9 (-1)) (gu M a0 0 (-1) 0)  h) dX7_read_11 (fun c3 M2 g4 h => ?_)
  have h := h g4
  refine q_if_ne (tgt := 20) C g4 (by decide) dX7_read_14 (fun b5 => ?_) (fun b5 => ?_)
  · have h := h.1 b5
    refine q_aload_n C 0 rfl rfl dX7_read_20 ?_
    refine q_iconst C dX7_read_21 ?_
    refine q_put (x := 0) (ty := .int) C fX7_208 hk0 (fun _ _ _ q => by cases q; rfl) (congrArg (fun z => Value.int (gI z)) gu_s) rfl rfl (show rng 0 by decide) (fun j q => absurd (show (0 : Nat) = j + 3 from q) (by omega)) dX7_read_22 ?_
    refine q_iload_n C 1 rfl rfl dX7_read_25 ?_
    refine q_bipush C (by decide) dX7_read_26 ?_
    obtain ⟨r6, h⟩ := h
    refine q_icmp_ne (tgt := 89) C r6 (show rng 13 by decide) (by decide) dX7_read_28 (fun b7 => ?_) (fun b7 => ?_)
    · have h := h.1 b7
      refine q_iconst C dX7_read_89 ?_
      exact hret (-1) (gu M2 a0 9 (-1) 0) _ _ dX7_read_90 (show rng (-1) by decide) h
    · have h := h.2 b7
      refine q_aload_n C 0 rfl rfl dX7_read_31 ?_
      obtain ⟨r8, h⟩ := h
      refine q_get (v := .ref (rh a0 8)) C fX7_36 hk0 (if_neg (Int.not_lt.mpr r8)) dX7_read_32 (fun g9 => ?_)
      refine q_iconst C dX7_read_35 ?_
      obtain ⟨r10, h⟩ := h
      refine q_bald C hk0 rfl (fun _ q => q) r10 dX7_read_36 (fun g11 => ?_)
      have h := h g11
      refine q_bipush C (by decide) dX7_read_37 ?_
      refine q_icmp_ne (tgt := 89) C g11 (show rng 75 by decide) (by decide) dX7_read_39 (fun b12 => ?_) (fun b12 => ?_)
      · have h := h.1 b12
        refine q_iconst C dX7_read_89 ?_
        exact hret (-1) (gu M2 a0 9 (-1) 0) _ _ dX7_read_90 (show rng (-1) by decide) h
      · have h := h.2 b12
        refine q_aload_n C 0 rfl rfl dX7_read_42 ?_
        refine q_get (v := .ref (rh a0 8)) C fX7_36 hk0 (if_neg (Int.not_lt.mpr r8)) dX7_read_43 (fun g13 => ?_)
        refine q_iconst C dX7_read_46 ?_
        obtain ⟨r14, h⟩ := h
        refine q_bald C hk0 rfl (fun _ q => q) r14 dX7_read_47 (fun g15 => ?_)
        have h := h g15
        refine q_bipush C (by decide) dX7_read_48 ?_
        refine q_icmp_ne (tgt := 89) C g15 (show rng 32 by decide) (by decide) dX7_read_50 (fun b16 => ?_) (fun b16 => ?_)
        · have h := h.1 b16
          refine q_iconst C dX7_read_89 ?_
          exact hret (-1) (gu M2 a0 9 (-1) 0) _ _ dX7_read_90 (show rng (-1) by decide) h
        · have h := h.2 b16
          refine q_aload_n C 0 rfl rfl dX7_read_53 ?_
          refine q_get (v := .ref (rh a0 8)) C fX7_36 hk0 (if_neg (Int.not_lt.mpr r8)) dX7_read_54 (fun g17 => ?_)
          refine q_bipush C (by decide) dX7_read_57 ?_
          obtain ⟨r18, h⟩ := h
          refine q_bald C hk0 rfl (fun _ q => q) r18 dX7_read_59 (fun g19 => ?_)
          have h := h g19
          refine q_bipush C (by decide) dX7_read_60 ?_
          refine q_icmp_ne (tgt := 89) C g19 (show rng 32 by decide) (by decide) dX7_read_62 (fun b20 => ?_) (fun b20 => ?_)
          · have h := h.1 b20
            refine q_iconst C dX7_read_89 ?_
            exact hret (-1) (gu M2 a0 9 (-1) 0) _ _ dX7_read_90 (show rng (-1) by decide) h
          · have h := h.2 b20
            refine q_aload_n C 0 rfl rfl dX7_read_65 ?_
            refine q_get (v := .ref (rh a0 8)) C fX7_36 hk0 (if_neg (Int.not_lt.mpr r8)) dX7_read_66 (fun g21 => ?_)
            refine q_bipush C (by decide) dX7_read_69 ?_
            obtain ⟨r22, h⟩ := h
            refine q_bald C hk0 rfl (fun _ q => q) r22 dX7_read_71 (fun g23 => ?_)
            have h := h g23
            refine q_bipush C (by decide) dX7_read_72 ?_
            refine q_icmp_ne (tgt := 89) C g23 (show rng 107 by decide) (by decide) dX7_read_74 (fun b24 => ?_) (fun b24 => ?_)
            · have h := h.1 b24
              refine q_iconst C dX7_read_89 ?_
              exact hret (-1) (gu M2 a0 9 (-1) 0) _ _ dX7_read_90 (show rng (-1) by decide) h
            · have h := h.2 b24
              refine q_aload_n C 0 rfl rfl dX7_read_77 ?_
              refine q_get (v := .ref (rh a0 8)) C fX7_36 hk0 (if_neg (Int.not_lt.mpr r8)) dX7_read_78 (fun g25 => ?_)
              refine q_bipush C (by decide) dX7_read_81 ?_
              obtain ⟨r26, h⟩ := h
              refine q_bald C hk0 rfl (fun _ q => q) r26 dX7_read_83 (fun g27 => ?_)
              have h := h g27
              refine q_bipush C (by decide) dX7_read_84 ?_
              refine q_icmp_eq (tgt := 91) C g27 (show rng 32 by decide) (by decide) dX7_read_86 (fun b28 => ?_) (fun b28 => ?_)
              · have h := h.1 b28
                refine q_aload_n C 0 rfl rfl dX7_read_91 ?_
                refine q_get (v := .ref (rh a0 8)) C fX7_36 hk0 (if_neg (Int.not_lt.mpr r8)) dX7_read_92 (fun g29 => ?_)
                refine q_iconst C dX7_read_95 ?_
                obtain ⟨r30, h⟩ := h
                refine q_bald C hk0 rfl (fun _ q => q) r30 dX7_read_96 (fun g31 => ?_)
                have h := h g31
                refine q_bipush C (by decide) dX7_read_97 ?_
                refine q_icmp_ne (tgt := 106) C g31 (show rng 81 by decide) (by decide) dX7_read_99 (fun b32 => ?_) (fun b32 => ?_)
                · have h := h.1 b32
                  refine q_aload_n C 0 rfl rfl dX7_read_106 ?_
                  refine q_get (v := .ref (rh a0 8)) C fX7_36 hk0 (if_neg (Int.not_lt.mpr r8)) dX7_read_107 (fun g33 => ?_)
                  refine q_iconst C dX7_read_110 ?_
                  refine q_bald C hk0 rfl (fun _ q => q) r30 dX7_read_111 (fun g34 => ?_)
                  refine q_bipush C (by decide) dX7_read_112 ?_
                  refine q_icmp_ne (tgt := 121) C g31 (show rng 82 by decide) (by decide) dX7_read_114 (fun b35 => ?_) (fun b35 => ?_)
                  · have h := h.1 b35
                    refine q_aload_n C 0 rfl rfl dX7_read_121 ?_
                    refine q_get (v := .ref (rh a0 8)) C fX7_36 hk0 (if_neg (Int.not_lt.mpr r8)) dX7_read_122 (fun g36 => ?_)
                    refine q_iconst C dX7_read_125 ?_
                    refine q_bald C hk0 rfl (fun _ q => q) r30 dX7_read_126 (fun g37 => ?_)
                    refine q_bipush C (by decide) dX7_read_127 ?_
                    refine q_icmp_ne (tgt := 136) C g31 (show rng 80 by decide) (by decide) dX7_read_129 (fun b38 => ?_) (fun b38 => ?_)
                    · have h := h.1 b38
                      refine q_iconst C dX7_read_136 ?_
                      refine q_lv (lv' := [(0, .ref (gad a0))]) [0] rfl ?_
                      exact t137  (-1) (gu M2 a0 9 (-1) 0) h
                    · have h := h.2 b38
                      refine q_iconst C dX7_read_132 ?_
                      refine q_goto (tgt := 137) C (by decide) dX7_read_133 ?_
                      refine q_lv (lv' := [(0, .ref (gad a0))]) [0] rfl ?_
                      exact t137  2 (gu M2 a0 9 (-1) 0) h
                  · have h := h.2 b35
                    refine q_iconst C dX7_read_117 ?_
                    refine q_goto (tgt := 137) C (by decide) dX7_read_118 ?_
                    refine q_lv (lv' := [(0, .ref (gad a0))]) [0] rfl ?_
                    exact t137  1 (gu M2 a0 9 (-1) 0) h
                · have h := h.2 b32
                  refine q_iconst C dX7_read_102 ?_
                  refine q_goto (tgt := 137) C (by decide) dX7_read_103 ?_
                  refine q_lv (lv' := [(0, .ref (gad a0))]) [0] rfl ?_
                  exact t137  0 (gu M2 a0 9 (-1) 0) h
              · have h := h.2 b28
                refine q_iconst C dX7_read_89 ?_
                exact hret (-1) (gu M2 a0 9 (-1) 0) _ _ dX7_read_90 (show rng (-1) by decide) h
  · have h := h.2 b5
    refine q_bipush C (by decide) dX7_read_17 ?_
    exact hret (-2) M2 _ _ dX7_read_19 (show rng (-2) by decide) h
set_option maxHeartbeats 4000000 in
set_option maxRecDepth 100000 in
theorem mX6_showSquare (l : Launch) (D : va_G) (cy : Nat → ClassId) (kd : gKd) (ln : gLn) (rh : gRh) (post : gM → Prop) (a0 : Int) (a1 : Int) (a2 : Int) (a3 : Int) (M : gM) (hk0 : kd a0 = 6) (h : wX6_showSquare kd ln post a0 a1 a2 a3 M) : gMV l D cy yX6_showSquare cX6_showSquare 4 0 0 [.ref (gad a0), .int (gI a1), .int (gI a2), .int (gI a3)] kd ln rh M post := by
  refine gMV_of (own := RX6) (by decide) rfl (Nat.le_of_ble_eq_true rfl) ?_
  intro p e s m args below meth c A H0 Q C hret
  unfold wX6_showSquare at h
  refine q_aload_n C 0 rfl rfl dX6_showSquare_0 ?_
  obtain ⟨r1, h⟩ := h
  refine q_get (v := .ref (rh a0 11)) C fX6_46 hk0 (if_neg (Int.not_lt.mpr r1)) dX6_showSquare_1 (fun g2 => ?_)
  refine q_iload_n C 1 rfl rfl dX6_showSquare_4 ?_
  refine q_iload_n C 2 rfl rfl dX6_showSquare_5 ?_
  obtain ⟨r3, h⟩ := h
  obtain ⟨r4, h⟩ := h
  refine q_iast C hk0 rfl r4 r3 dX6_showSquare_6 ?_
  refine q_aload_n C 0 rfl rfl dX6_showSquare_7 ?_
  refine q_get (v := .ref (rh a0 11)) C fX6_46 hk0 (if_neg (Int.not_lt.mpr r1)) dX6_showSquare_8 (fun g5 => ?_)
  refine q_iload_n C 1 rfl rfl dX6_showSquare_11 ?_
  refine q_iconst C dX6_showSquare_12 ?_
  refine q_iadd C dX6_showSquare_13 ?_
  refine q_bipush C (by decide) dX6_showSquare_14 ?_
  refine q_aload_n C 0 rfl rfl dX6_showSquare_16 ?_
  refine q_get (v := gR ((gu M a0 11 a1 a2) a0 1 (-1))) C fX6_52 hk0 rfl dX6_showSquare_17 (fun g6 => ?_)
  obtain ⟨r7, h⟩ := h
  refine q_nn r7 (by decide) ?_
  obtain ⟨r8, h⟩ := h
  refine q_get (v := .ref (rh ((gu M a0 11 a1 a2) a0 1 (-1)) 3)) C fX6_254 r7 (if_neg (Int.not_lt.mpr r8)) dX6_showSquare_20 (fun g9 => ?_)
  refine q_iload_n C 3 rfl rfl dX6_showSquare_23 ?_
  obtain ⟨r10, h⟩ := h
  refine q_iald C r7 rfl (fun _ q => q) r10 dX6_showSquare_24 (fun g11 => ?_)
  have h := h g11
  refine q_iadd C dX6_showSquare_25 ?_
  obtain ⟨r12, h⟩ := h
  obtain ⟨r13, h⟩ := h
  refine q_iast C hk0 rfl r13 r12 dX6_showSquare_26 ?_
  refine q_aload_n C 0 rfl rfl dX6_showSquare_27 ?_
  refine q_get (v := .ref (rh a0 11)) C fX6_46 hk0 (if_neg (Int.not_lt.mpr r1)) dX6_showSquare_28 (fun g14 => ?_)
  refine q_iload_n C 1 rfl rfl dX6_showSquare_31 ?_
  refine q_iconst C dX6_showSquare_32 ?_
  refine q_iadd C dX6_showSquare_33 ?_
  refine q_bipush C (by decide) dX6_showSquare_34 ?_
  refine q_aload_n C 0 rfl rfl dX6_showSquare_36 ?_
  refine q_get (v := gR ((gu (gu M a0 11 a1 a2) a0 11 (a1 + 1) (97 + ((gu M a0 11 a1 a2) ((gu M a0 11 a1 a2) a0 1 (-1)) 3 a3))) a0 1 (-1))) C fX6_52 hk0 rfl dX6_showSquare_37 (fun g15 => ?_)
  obtain ⟨r16, h⟩ := h
  refine q_nn r16 (by decide) ?_
  obtain ⟨r17, h⟩ := h
  refine q_get (v := .ref (rh ((gu (gu M a0 11 a1 a2) a0 11 (a1 + 1) (97 + ((gu M a0 11 a1 a2) ((gu M a0 11 a1 a2) a0 1 (-1)) 3 a3))) a0 1 (-1)) 2)) C fX6_257 r16 (if_neg (Int.not_lt.mpr r17)) dX6_showSquare_40 (fun g18 => ?_)
  refine q_iload_n C 3 rfl rfl dX6_showSquare_43 ?_
  obtain ⟨r19, h⟩ := h
  refine q_iald C r16 rfl (fun _ q => q) r19 dX6_showSquare_44 (fun g20 => ?_)
  have h := h g20
  refine q_iadd C dX6_showSquare_45 ?_
  obtain ⟨r21, h⟩ := h
  obtain ⟨r22, h⟩ := h
  refine q_iast C hk0 rfl r22 r21 dX6_showSquare_46 ?_
  refine q_aload_n C 0 rfl rfl dX6_showSquare_47 ?_
  refine q_get (v := .ref (rh a0 11)) C fX6_46 hk0 (if_neg (Int.not_lt.mpr r1)) dX6_showSquare_48 (fun g23 => ?_)
  refine q_iload_n C 1 rfl rfl dX6_showSquare_51 ?_
  refine q_iconst C dX6_showSquare_52 ?_
  refine q_iadd C dX6_showSquare_53 ?_
  refine q_bipush C (by decide) dX6_showSquare_54 ?_
  obtain ⟨r24, h⟩ := h
  refine q_iast C hk0 rfl (show rng 32 by decide) r24 dX6_showSquare_56 ?_
  exact hret (gu (gu (gu (gu M a0 11 a1 a2) a0 11 (a1 + 1) (97 + ((gu M a0 11 a1 a2) ((gu M a0 11 a1 a2) a0 1 (-1)) 3 a3))) a0 11 (a1 + 2) (49 + ((gu (gu M a0 11 a1 a2) a0 11 (a1 + 1) (97 + ((gu M a0 11 a1 a2) ((gu M a0 11 a1 a2) a0 1 (-1)) 3 a3))) ((gu (gu M a0 11 a1 a2) a0 11 (a1 + 1) (97 + ((gu M a0 11 a1 a2) ((gu M a0 11 a1 a2) a0 1 (-1)) 3 a3))) a0 1 (-1)) 2 a3))) a0 11 (a1 + 3) 32) _ _ dX6_showSquare_57 h
set_option maxHeartbeats 4000000 in
set_option maxRecDepth 100000 in
theorem mX6_show (l : Launch) (D : va_G) (cy : Nat → ClassId) (kd : gKd) (ln : gLn) (rh : gRh) (post : Int → gM → Prop) (a0 : Int) (a1 : Int) (a2 : Int) (a3 : Int) (a4 : Int) (a5 : Int) (M : gM) (hk0 : kd a0 = 6) (h : wX6_show kd ln post a0 a1 a2 a3 a4 a5 M) : gMI l D cy yX6_show cX6_show 6 .int 3 72 [.ref (gad a0), .int (gI a1), .int (gI a2), .int (gI a3), .int (gI a4), .int (gI a5)] kd ln rh M post := by
  refine gMI_of (own := RX6) (by decide) rfl (Nat.le_of_ble_eq_true rfl) ?_
  intro p e s m args below meth c A H0 Q C hret
  unfold wX6_show at h
  refine q_aload_n C 0 rfl rfl dX6_show_0 ?_
  refine q_get (v := gR (M a0 1 (-1))) C fX6_52 hk0 rfl dX6_show_1 (fun g1 => ?_)
  obtain ⟨r2, h⟩ := h
  refine q_nn r2 (by decide) ?_
  refine q_iload_n C 1 rfl rfl dX6_show_4 ?_
  refine q_iload_n C 2 rfl rfl dX6_show_5 ?_
  refine q_iload_n C 3 rfl rfl dX6_show_6 ?_
  refine q_iload C 4 rfl dX6_show_7 ?_
  refine q_iload C 5 rfl dX6_show_9 ?_
  refine q_callVI (As := [.int (gI a1), .int (gI a2), .int (gI a3), .int (gI a4), .int (gI a5)]) (st := []) C vX6_70 kX0_allows ⟨Nat.le_of_ble_eq_true rfl, Nat.le_of_ble_eq_true rfl⟩ ⟨Nat.le_of_ble_eq_true rfl, Nat.le_of_ble_eq_true rfl⟩ rfl r2 ⟨_, _, rfl⟩ (by decide) rfl (Nat.le_of_ble_eq_true rfl) (mX0_allows l D cy kd ln rh _ (M a0 1 (-1)) a1 a2 a3 a4 a5 M r2 h) dX6_show_11 (fun c4 M3 g5 h => ?_)
  have h := h g5
  refine q_if_ne (tgt := 19) C g5 (by decide) dX6_show_14 (fun b6 => ?_) (fun b6 => ?_)
  · have h := h.1 b6
    refine q_aload_n C 0 rfl rfl dX6_show_19 ?_
    refine q_iconst C dX6_show_20 ?_
    refine q_bipush C (by decide) dX6_show_21 ?_
    refine q_iload_n C 2 rfl rfl dX6_show_23 ?_
    refine q_callVV (As := [.int (gI 0), .int (gI 75), .int (gI a2)]) (st := []) C vX6_176 kX6_showSquare ⟨Nat.le_of_ble_eq_true rfl, Nat.le_of_ble_eq_true rfl⟩ ⟨Nat.le_of_ble_eq_true rfl, Nat.le_of_ble_eq_true rfl⟩ rfl hk0 ⟨_, _, rfl⟩ (by decide) rfl (Nat.le_of_ble_eq_true rfl) (mX6_showSquare l D cy kd ln rh _ a0 0 75 a2 M3 hk0 h) dX6_show_24 (fun M7 h => ?_)
    refine q_aload_n C 0 rfl rfl dX6_show_27 ?_
    refine q_iconst C dX6_show_28 ?_
    refine q_gets (t := 0) C (Or.inl ⟨rfl, rfl⟩) zX6_180 dX6_show_29 ?_
    refine q_iload_n C 1 rfl rfl dX6_show_32 ?_
    obtain ⟨r10, h⟩ := h
    refine q_cald C (by decide) r10 dX6_show_33 (fun g11 => ?_)
    have h := h g11
    refine q_iload C 4 rfl dX6_show_34 ?_
    refine q_callVV (As := [.int (gI 4), .int (gI (gle 0 a1.toNat)), .int (gI a4)]) (st := []) C vX6_176 kX6_showSquare ⟨Nat.le_of_ble_eq_true rfl, Nat.le_of_ble_eq_true rfl⟩ ⟨Nat.le_of_ble_eq_true rfl, Nat.le_of_ble_eq_true rfl⟩ rfl hk0 ⟨_, _, rfl⟩ (by decide) rfl (Nat.le_of_ble_eq_true rfl) (mX6_showSquare l D cy kd ln rh _ a0 4 (gle 0 a1.toNat) a4 M7 hk0 h) dX6_show_36 (fun M12 h => ?_)
    refine q_aload_n C 0 rfl rfl dX6_show_39 ?_
    refine q_bipush C (by decide) dX6_show_40 ?_
    refine q_bipush C (by decide) dX6_show_42 ?_
    refine q_iload_n C 3 rfl rfl dX6_show_44 ?_
    refine q_callVV (As := [.int (gI 8), .int (gI 107), .int (gI a3)]) (st := []) C vX6_176 kX6_showSquare ⟨Nat.le_of_ble_eq_true rfl, Nat.le_of_ble_eq_true rfl⟩ ⟨Nat.le_of_ble_eq_true rfl, Nat.le_of_ble_eq_true rfl⟩ rfl hk0 ⟨_, _, rfl⟩ (by decide) rfl (Nat.le_of_ble_eq_true rfl) (mX6_showSquare l D cy kd ln rh _ a0 8 107 a3 M12 hk0 h) dX6_show_45 (fun M15 h => ?_)
    refine q_aload_n C 0 rfl rfl dX6_show_48 ?_
    obtain ⟨r18, h⟩ := h
    refine q_get (v := .ref (rh a0 11)) C fX6_46 hk0 (if_neg (Int.not_lt.mpr r18)) dX6_show_49 (fun g19 => ?_)
    refine q_bipush C (by decide) dX6_show_52 ?_
    refine q_gets (t := 1) C (Or.inr ⟨rfl, rfl⟩) zX6_184 dX6_show_54 ?_
    refine q_iload C 5 rfl dX6_show_57 ?_
    obtain ⟨r20, h⟩ := h
    refine q_cald C (by decide) r20 dX6_show_59 (fun g21 => ?_)
    have h := h g21
    obtain ⟨r22, h⟩ := h
    refine q_iast C hk0 rfl g21 r22 dX6_show_60 ?_
    refine q_aload_n C 0 rfl rfl dX6_show_61 ?_
    refine q_bipush C (by decide) dX6_show_62 ?_
    refine q_put (x := 13) (ty := .int) C fX6_187 hk0 (fun _ _ _ q => by cases q; rfl) (congrArg (fun z => Value.int (gI z)) gu_s) rfl rfl (show rng 13 by decide) (fun j q => absurd (show (0 : Nat) = j + 3 from q) (by omega)) dX6_show_64 ?_
    refine q_aload_n C 0 rfl rfl dX6_show_67 ?_
    refine q_get (v := .int (gI ((gu (gu M15 a0 11 12 (gle 1 a5.toNat)) a0 12 (-1) 13) a0 12 (-1)))) C fX6_187 hk0 rfl dX6_show_68 (fun g23 => ?_)
    have h := h g23
    exact hret ((gu (gu M15 a0 11 12 (gle 1 a5.toNat)) a0 12 (-1) 13) a0 12 (-1)) (gu (gu M15 a0 11 12 (gle 1 a5.toNat)) a0 12 (-1) 13) _ _ dX6_show_71 g23 h
  · have h := h.2 b6
    refine q_iconst C dX6_show_17 ?_
    exact hret (-1) M3 _ _ dX6_show_18 (show rng (-1) by decide) h
set_option maxHeartbeats 4000000 in
set_option maxRecDepth 100000 in
theorem mX7_tell (l : Launch) (D : va_G) (cy : Nat → ClassId) (kd : gKd) (ln : gLn) (rh : gRh) (post : gM → Prop) (a0 : Int) (a1 : Int) (M : gM) (hk0 : kd a0 = 7) (h : wX7_tell kd ln post a0 a1 M) : gMV l D cy yX7_tell cX7_tell 2 0 0 [.ref (gad a0), .int (gI a1)] kd ln rh M post := by
  refine gMV_of (own := RX7) (by decide) rfl (Nat.le_of_ble_eq_true rfl) ?_
  intro p e s m args below meth c A H0 Q C hret
  unfold wX7_tell at h
  refine q_aload_n C 0 rfl rfl dX7_tell_0 ?_
  obtain ⟨r1, h⟩ := h
  refine q_get (v := .ref (rh a0 10)) C fX7_39 hk0 (if_neg (Int.not_lt.mpr r1)) dX7_tell_1 (fun g2 => ?_)
  refine q_aload_n C 0 rfl rfl dX7_tell_4 ?_
  refine q_get (v := .int (gI (M a0 11 (-1)))) C fX7_217 hk0 rfl dX7_tell_5 (fun g3 => ?_)
  have h := h g3
  refine q_iload_n C 1 rfl rfl dX7_tell_8 ?_
  refine q_i2b C dX7_tell_9 ?_
  obtain ⟨r4, h⟩ := h
  obtain ⟨r5, h⟩ := h
  refine q_bast C hk0 rfl (rng8 r5) r5 r4 dX7_tell_10 ?_
  refine q_aload_n C 0 rfl rfl dX7_tell_11 ?_
  refine q_dup C rfl dX7_tell_12 ?_
  refine q_get (v := .int (gI ((gu M a0 10 (M a0 11 (-1)) (gi2b a1)) a0 11 (-1)))) C fX7_217 hk0 rfl dX7_tell_13 (fun g6 => ?_)
  have h := h g6
  refine q_iconst C dX7_tell_16 ?_
  refine q_iadd C dX7_tell_17 ?_
  obtain ⟨r7, h⟩ := h
  refine q_put (x := (((gu M a0 10 (M a0 11 (-1)) (gi2b a1)) a0 11 (-1)) + 1)) (ty := .int) C fX7_217 hk0 (fun _ _ _ q => by cases q; rfl) (congrArg (fun z => Value.int (gI z)) gu_s) rfl rfl r7 (fun j q => absurd (show (0 : Nat) = j + 3 from q) (by omega)) dX7_tell_18 ?_
  exact hret (gu (gu M a0 10 (M a0 11 (-1)) (gi2b a1)) a0 11 (-1) (((gu M a0 10 (M a0 11 (-1)) (gi2b a1)) a0 11 (-1)) + 1)) _ _ dX7_tell_21 h
set_option maxHeartbeats 4000000 in
set_option maxRecDepth 100000 in
theorem mX7_tellSquare (l : Launch) (D : va_G) (cy : Nat → ClassId) (kd : gKd) (ln : gLn) (rh : gRh) (post : gM → Prop) (a0 : Int) (a1 : Int) (M : gM) (hk0 : kd a0 = 7) (h : wX7_tellSquare kd ln post a0 a1 M) : gMV l D cy yX7_tellSquare cX7_tellSquare 2 1 21 [.ref (gad a0), .int (gI a1)] kd ln rh M post := by
  refine gMV_of (own := RX7) (by decide) rfl (Nat.le_of_ble_eq_true rfl) ?_
  intro p e s m args below meth c A H0 Q C hret
  unfold wX7_tellSquare at h
  refine q_aload_n C 0 rfl rfl dX7_tellSquare_0 ?_
  refine q_bipush C (by decide) dX7_tellSquare_1 ?_
  refine q_iload_n C 1 rfl rfl dX7_tellSquare_3 ?_
  refine q_aload_n C 0 rfl rfl dX7_tellSquare_4 ?_
  refine q_get (v := .int (gI (M a0 1 (-1)))) C fX7_7 hk0 rfl dX7_tellSquare_5 (fun g1 => ?_)
  have h := h g1
  obtain ⟨r2, h⟩ := h
  refine q_irem C r2 dX7_tellSquare_8 ?_
  refine q_iadd C dX7_tellSquare_9 ?_
  refine q_callVV (As := [.int (gI (97 + (a1 % (M a0 1 (-1)))))]) (st := []) C vX7_220 kX7_tell ⟨Nat.le_of_ble_eq_true rfl, Nat.le_of_ble_eq_true rfl⟩ ⟨Nat.le_of_ble_eq_true rfl, Nat.le_of_ble_eq_true rfl⟩ rfl hk0 ⟨_, _, rfl⟩ (by decide) rfl (Nat.le_of_ble_eq_true rfl) (mX7_tell l D cy kd ln rh _ a0 (97 + (a1 % (M a0 1 (-1)))) M hk0 h) dX7_tellSquare_10 (fun M3 h => ?_)
  refine q_aload_n C 0 rfl rfl dX7_tellSquare_13 ?_
  refine q_bipush C (by decide) dX7_tellSquare_14 ?_
  refine q_iload_n C 1 rfl rfl dX7_tellSquare_16 ?_
  refine q_aload_n C 0 rfl rfl dX7_tellSquare_17 ?_
  refine q_get (v := .int (gI (M3 a0 1 (-1)))) C fX7_7 hk0 rfl dX7_tellSquare_18 (fun g6 => ?_)
  have h := h g6
  obtain ⟨r7, h⟩ := h
  refine q_idiv C r7 dX7_tellSquare_21 ?_
  refine q_iadd C dX7_tellSquare_22 ?_
  refine q_callVV (As := [.int (gI (49 + (a1 / (M3 a0 1 (-1)))))]) (st := []) C vX7_220 kX7_tell ⟨Nat.le_of_ble_eq_true rfl, Nat.le_of_ble_eq_true rfl⟩ ⟨Nat.le_of_ble_eq_true rfl, Nat.le_of_ble_eq_true rfl⟩ rfl hk0 ⟨_, _, rfl⟩ (by decide) rfl (Nat.le_of_ble_eq_true rfl) (mX7_tell l D cy kd ln rh _ a0 (49 + (a1 / (M3 a0 1 (-1)))) M3 hk0 h) dX7_tellSquare_23 (fun M8 h => ?_)
  exact hret M8 _ _ dX7_tellSquare_26 h
set_option maxHeartbeats 4000000 in
set_option maxRecDepth 100000 in
theorem mX7_show (l : Launch) (D : va_G) (cy : Nat → ClassId) (kd : gKd) (ln : gLn) (rh : gRh) (post : Int → gM → Prop) (a0 : Int) (a1 : Int) (a2 : Int) (a3 : Int) (a4 : Int) (a5 : Int) (M : gM) (hk0 : kd a0 = 7) (h : wX7_show kd ln post a0 a1 a2 a3 a4 a5 M) : gMI l D cy yX7_show cX7_show 6 .int 4 100 [.ref (gad a0), .int (gI a1), .int (gI a2), .int (gI a3), .int (gI a4), .int (gI a5)] kd ln rh M post := by
  refine gMI_of (own := RX7) (by decide) rfl (Nat.le_of_ble_eq_true rfl) ?_
  intro p e s m args below meth c A H0 Q C hret
  have t124 : ∀ (y0 : Int) (M : gM), wX7_show_124 kd ln post a0 a1 a2 a3 a4 a5 y0 M → gW p l e (gRm 4 100) s m args below meth c D cy A H0 Q 6 kd ln rh 0 0 M 124 [(0, .ref (gad a0))] [.int (gI y0), .ref (gad a0)] := by
    intro  y0 M h
    unfold wX7_show_124 at h
    refine q_callVV (As := [.int (gI y0)]) (st := []) C vX7_220 kX7_tell ⟨Nat.le_of_ble_eq_true rfl, Nat.le_of_ble_eq_true rfl⟩ ⟨Nat.le_of_ble_eq_true rfl, Nat.le_of_ble_eq_true rfl⟩ rfl hk0 ⟨_, _, rfl⟩ (by decide) rfl (Nat.le_of_ble_eq_true rfl) (mX7_tell l D cy kd ln rh _ a0 y0 M hk0 h) dX7_show_124 (fun M41 h => ?_)
    refine q_aload_n C 0 rfl rfl dX7_show_127 ?_
    refine q_get (v := .int (gI (M41 a0 11 (-1)))) C fX7_217 hk0 rfl dX7_show_128 (fun g44 => ?_)
    have h := h g44
    exact hret (M41 a0 11 (-1)) M41 _ _ dX7_show_131 g44 h
  have t79 : ∀ (y0 : Int) (M : gM), wX7_show_79 kd ln post a0 a1 a2 a3 a4 a5 y0 M → gW p l e (gRm 4 100) s m args below meth c D cy A H0 Q 6 kd ln rh 0 0 M 79 [(0, .ref (gad a0)), (3, .int (gI a3)), (4, .int (gI a4)), (5, .int (gI a5))] [.int (gI y0), .ref (gad a0)] := by
    intro  y0 M h
    unfold wX7_show_79 at h
    refine q_callVV (As := [.int (gI y0)]) (st := []) C vX7_220 kX7_tell ⟨Nat.le_of_ble_eq_true rfl, Nat.le_of_ble_eq_true rfl⟩ ⟨Nat.le_of_ble_eq_true rfl, Nat.le_of_ble_eq_true rfl⟩ rfl hk0 ⟨_, _, rfl⟩ (by decide) rfl (Nat.le_of_ble_eq_true rfl) (mX7_tell l D cy kd ln rh _ a0 y0 M hk0 h) dX7_show_79 (fun M21 h => ?_)
    refine q_aload_n C 0 rfl rfl dX7_show_82 ?_
    refine q_iload C 2 rfl dX7_show_83 ?_
    refine q_callVV (As := [.int (gI a4)]) (st := []) C vX7_223 kX7_tellSquare ⟨Nat.le_of_ble_eq_true rfl, Nat.le_of_ble_eq_true rfl⟩ ⟨Nat.le_of_ble_eq_true rfl, Nat.le_of_ble_eq_true rfl⟩ rfl hk0 ⟨_, _, rfl⟩ (by decide) rfl (Nat.le_of_ble_eq_true rfl) (mX7_tellSquare l D cy kd ln rh _ a0 a4 M21 hk0 h) dX7_show_85 (fun M24 h => ?_)
    refine q_aload_n C 0 rfl rfl dX7_show_88 ?_
    refine q_bipush C (by decide) dX7_show_89 ?_
    refine q_callVV (As := [.int (gI 32)]) (st := []) C vX7_220 kX7_tell ⟨Nat.le_of_ble_eq_true rfl, Nat.le_of_ble_eq_true rfl⟩ ⟨Nat.le_of_ble_eq_true rfl, Nat.le_of_ble_eq_true rfl⟩ rfl hk0 ⟨_, _, rfl⟩ (by decide) rfl (Nat.le_of_ble_eq_true rfl) (mX7_tell l D cy kd ln rh _ a0 32 M24 hk0 h) dX7_show_91 (fun M27 h => ?_)
    refine q_aload_n C 0 rfl rfl dX7_show_94 ?_
    refine q_bipush C (by decide) dX7_show_95 ?_
    refine q_callVV (As := [.int (gI 107)]) (st := []) C vX7_220 kX7_tell ⟨Nat.le_of_ble_eq_true rfl, Nat.le_of_ble_eq_true rfl⟩ ⟨Nat.le_of_ble_eq_true rfl, Nat.le_of_ble_eq_true rfl⟩ rfl hk0 ⟨_, _, rfl⟩ (by decide) rfl (Nat.le_of_ble_eq_true rfl) (mX7_tell l D cy kd ln rh _ a0 107 M27 hk0 h) dX7_show_97 (fun M30 h => ?_)
    refine q_aload_n C 0 rfl rfl dX7_show_100 ?_
    refine q_iload_n C 1 rfl rfl dX7_show_101 ?_
    refine q_callVV (As := [.int (gI a3)]) (st := []) C vX7_223 kX7_tellSquare ⟨Nat.le_of_ble_eq_true rfl, Nat.le_of_ble_eq_true rfl⟩ ⟨Nat.le_of_ble_eq_true rfl, Nat.le_of_ble_eq_true rfl⟩ rfl hk0 ⟨_, _, rfl⟩ (by decide) rfl (Nat.le_of_ble_eq_true rfl) (mX7_tellSquare l D cy kd ln rh _ a0 a3 M30 hk0 h) dX7_show_102 (fun M33 h => ?_)
    refine q_aload_n C 0 rfl rfl dX7_show_105 ?_
    refine q_bipush C (by decide) dX7_show_106 ?_
    refine q_callVV (As := [.int (gI 32)]) (st := []) C vX7_220 kX7_tell ⟨Nat.le_of_ble_eq_true rfl, Nat.le_of_ble_eq_true rfl⟩ ⟨Nat.le_of_ble_eq_true rfl, Nat.le_of_ble_eq_true rfl⟩ rfl hk0 ⟨_, _, rfl⟩ (by decide) rfl (Nat.le_of_ble_eq_true rfl) (mX7_tell l D cy kd ln rh _ a0 32 M33 hk0 h) dX7_show_108 (fun M36 h => ?_)
    refine q_aload_n C 0 rfl rfl dX7_show_111 ?_
    refine q_iload C 3 rfl dX7_show_112 ?_
    obtain ⟨r39, h⟩ := h
    refine q_if_ne (tgt := 122) C r39 (by decide) dX7_show_114 (fun b40 => ?_) (fun b40 => ?_)
    · have h := h.1 b40
      refine q_bipush C (by decide) dX7_show_122 ?_
      refine q_lv (lv' := [(0, .ref (gad a0))]) [0] rfl ?_
      exact t124  98 M36 h
    · have h := h.2 b40
      refine q_bipush C (by decide) dX7_show_117 ?_
      refine q_goto (tgt := 124) C (by decide) dX7_show_119 ?_
      refine q_lv (lv' := [(0, .ref (gad a0))]) [0] rfl ?_
      exact t124  119 M36 h
  unfold wX7_show at h
  refine q_aload_n C 0 rfl rfl dX7_show_0 ?_
  refine q_iconst C dX7_show_1 ?_
  refine q_put (x := 0) (ty := .int) C fX7_81 hk0 (fun _ _ _ q => by cases q; rfl) (congrArg (fun z => Value.int (gI z)) gu_s) rfl rfl (show rng 0 by decide) (fun j q => absurd (show (0 : Nat) = j + 3 from q) (by omega)) dX7_show_2 ?_
  refine q_aload_n C 0 rfl rfl dX7_show_5 ?_
  refine q_iload_n C 1 rfl rfl dX7_show_6 ?_
  refine q_iload_n C 2 rfl rfl dX7_show_7 ?_
  refine q_iload_n C 3 rfl rfl dX7_show_8 ?_
  refine q_iload C 4 rfl dX7_show_9 ?_
  refine q_iload C 5 rfl dX7_show_11 ?_
  refine q_callVI (As := [.int (gI a1), .int (gI a2), .int (gI a3), .int (gI a4), .int (gI a5)]) (st := []) C vX7_183 kX7_areNumbers ⟨Nat.le_of_ble_eq_true rfl, Nat.le_of_ble_eq_true rfl⟩ ⟨Nat.le_of_ble_eq_true rfl, Nat.le_of_ble_eq_true rfl⟩ rfl hk0 ⟨_, _, rfl⟩ (by decide) rfl (Nat.le_of_ble_eq_true rfl) (mX7_areNumbers l D cy kd ln rh _ a0 a1 a2 a3 a4 a5 (gu M a0 0 (-1) 0) hk0 h) dX7_show_13 (fun c2 M1 g3 h => ?_)
  have h := h g3
  refine q_if_eq (tgt := 33) C g3 (by decide) dX7_show_16 (fun b4 => ?_) (fun b4 => ?_)
  · have h := h.1 b4
    refine q_iconst C dX7_show_33 ?_
    exact hret (-1) M1 _ _ dX7_show_34 (show rng (-1) by decide) h
  · have h := h.2 b4
    refine q_aload_n C 0 rfl rfl dX7_show_19 ?_
    refine q_iload_n C 1 rfl rfl dX7_show_20 ?_
    refine q_iload_n C 2 rfl rfl dX7_show_21 ?_
    refine q_iload_n C 3 rfl rfl dX7_show_22 ?_
    refine q_iload C 4 rfl dX7_show_23 ?_
    refine q_iload C 5 rfl dX7_show_25 ?_
    refine q_callVI (As := [.int (gI a1), .int (gI a2), .int (gI a3), .int (gI a4), .int (gI a5)]) (st := []) C vX7_107 kX7_legal ⟨Nat.le_of_ble_eq_true rfl, Nat.le_of_ble_eq_true rfl⟩ ⟨Nat.le_of_ble_eq_true rfl, Nat.le_of_ble_eq_true rfl⟩ rfl hk0 ⟨_, _, rfl⟩ (by decide) rfl (Nat.le_of_ble_eq_true rfl) (mX7_legal l D cy kd ln rh _ a0 a1 a2 a3 a4 a5 M1 hk0 h) dX7_show_27 (fun c6 M5 g7 h => ?_)
    have h := h g7
    refine q_if_ne (tgt := 35) C g7 (by decide) dX7_show_30 (fun b8 => ?_) (fun b8 => ?_)
    · have h := h.1 b8
      refine q_aload_n C 0 rfl rfl dX7_show_35 ?_
      refine q_iconst C dX7_show_36 ?_
      refine q_put (x := 0) (ty := .int) C fX7_217 hk0 (fun _ _ _ q => by cases q; rfl) (congrArg (fun z => Value.int (gI z)) gu_s) rfl rfl (show rng 0 by decide) (fun j q => absurd (show (0 : Nat) = j + 3 from q) (by omega)) dX7_show_37 ?_
      refine q_aload_n C 0 rfl rfl dX7_show_40 ?_
      refine q_bipush C (by decide) dX7_show_41 ?_
      refine q_callVV (As := [.int (gI 75)]) (st := []) C vX7_220 kX7_tell ⟨Nat.le_of_ble_eq_true rfl, Nat.le_of_ble_eq_true rfl⟩ ⟨Nat.le_of_ble_eq_true rfl, Nat.le_of_ble_eq_true rfl⟩ rfl hk0 ⟨_, _, rfl⟩ (by decide) rfl (Nat.le_of_ble_eq_true rfl) (mX7_tell l D cy kd ln rh _ a0 75 (gu M5 a0 11 (-1) 0) hk0 h) dX7_show_43 (fun M9 h => ?_)
      refine q_aload_n C 0 rfl rfl dX7_show_46 ?_
      refine q_iload_n C 2 rfl rfl dX7_show_47 ?_
      refine q_callVV (As := [.int (gI a2)]) (st := []) C vX7_223 kX7_tellSquare ⟨Nat.le_of_ble_eq_true rfl, Nat.le_of_ble_eq_true rfl⟩ ⟨Nat.le_of_ble_eq_true rfl, Nat.le_of_ble_eq_true rfl⟩ rfl hk0 ⟨_, _, rfl⟩ (by decide) rfl (Nat.le_of_ble_eq_true rfl) (mX7_tellSquare l D cy kd ln rh _ a0 a2 M9 hk0 h) dX7_show_48 (fun M12 h => ?_)
      refine q_aload_n C 0 rfl rfl dX7_show_51 ?_
      refine q_bipush C (by decide) dX7_show_52 ?_
      refine q_callVV (As := [.int (gI 32)]) (st := []) C vX7_220 kX7_tell ⟨Nat.le_of_ble_eq_true rfl, Nat.le_of_ble_eq_true rfl⟩ ⟨Nat.le_of_ble_eq_true rfl, Nat.le_of_ble_eq_true rfl⟩ rfl hk0 ⟨_, _, rfl⟩ (by decide) rfl (Nat.le_of_ble_eq_true rfl) (mX7_tell l D cy kd ln rh _ a0 32 M12 hk0 h) dX7_show_54 (fun M15 h => ?_)
      refine q_aload_n C 0 rfl rfl dX7_show_57 ?_
      refine q_iload_n C 1 rfl rfl dX7_show_58 ?_
      obtain ⟨r18, h⟩ := h
      refine q_if_ne (tgt := 67) C r18 (by decide) dX7_show_59 (fun b19 => ?_) (fun b19 => ?_)
      · have h := h.1 b19
        refine q_iload_n C 1 rfl rfl dX7_show_67 ?_
        refine q_iconst C dX7_show_68 ?_
        refine q_icmp_ne (tgt := 77) C r18 (show rng 1 by decide) (by decide) dX7_show_69 (fun b20 => ?_) (fun b20 => ?_)
        · have h := h.1 b20
          refine q_bipush C (by decide) dX7_show_77 ?_
          refine q_lv (lv' := [(0, .ref (gad a0)), (3, .int (gI a3)), (4, .int (gI a4)), (5, .int (gI a5))]) [0, 3, 4, 5] rfl ?_
          exact t79  80 M15 h
        · have h := h.2 b20
          refine q_bipush C (by decide) dX7_show_72 ?_
          refine q_goto (tgt := 79) C (by decide) dX7_show_74 ?_
          refine q_lv (lv' := [(0, .ref (gad a0)), (3, .int (gI a3)), (4, .int (gI a4)), (5, .int (gI a5))]) [0, 3, 4, 5] rfl ?_
          exact t79  82 M15 h
      · have h := h.2 b19
        refine q_bipush C (by decide) dX7_show_62 ?_
        refine q_goto (tgt := 79) C (by decide) dX7_show_64 ?_
        refine q_lv (lv' := [(0, .ref (gad a0)), (3, .int (gI a3)), (4, .int (gI a4)), (5, .int (gI a5))]) [0, 3, 4, 5] rfl ?_
        exact t79  81 M15 h
    · have h := h.2 b8
      refine q_iconst C dX7_show_33 ?_
      exact hret (-1) M5 _ _ dX7_show_34 (show rng (-1) by decide) h
set_option maxHeartbeats 4000000 in
set_option maxRecDepth 100000 in
theorem mX6_out (l : Launch) (D : va_G) (cy : Nat → ClassId) (kd : gKd) (ln : gLn) (rh : gRh) (post : Int → gM → Prop) (a0 : Int) (a1 : Int) (M : gM) (hk0 : kd a0 = 6) (h : wX6_out kd ln post a0 a1 M) : gMI l D cy yX6_out cX6_out 2 .int 0 0 [.ref (gad a0), .int (gI a1)] kd ln rh M post := by
  refine gMI_of (own := RX6) (by decide) rfl (Nat.le_of_ble_eq_true rfl) ?_
  intro p e s m args below meth c A H0 Q C hret
  have t12 : ∀ (M : gM), wX6_out_12 kd ln post a0 a1  M → gW p l e (gRm 0 0) s m args below meth c D cy A H0 Q 2 kd ln rh 0 0 M 12 [] [] := by
    intro   M h
    unfold wX6_out_12 at h
    refine q_iconst C dX6_out_12 ?_
    refine q_goto (tgt := 22) C (by decide) dX6_out_13 ?_
    exact hret (-1) M _ _ dX6_out_22 (show rng (-1) by decide) h
  unfold wX6_out at h
  refine q_iload_n C 1 rfl rfl dX6_out_0 ?_
  obtain ⟨r1, h⟩ := h
  refine q_if_lt (tgt := 12) C r1 (by decide) dX6_out_1 (fun b2 => ?_) (fun b2 => ?_)
  · have h := h.1 b2
    refine q_lv (lv' := []) [] rfl ?_
    exact t12  M h
  · have h := h.2 b2
    refine q_iload_n C 1 rfl rfl dX6_out_4 ?_
    refine q_aload_n C 0 rfl rfl dX6_out_5 ?_
    refine q_get (v := .int (gI (M a0 12 (-1)))) C fX6_187 hk0 rfl dX6_out_6 (fun g3 => ?_)
    have h := h g3
    refine q_icmp_lt (tgt := 16) C r1 g3 (by decide) dX6_out_9 (fun b4 => ?_) (fun b4 => ?_)
    · have h := h.1 b4
      refine q_aload_n C 0 rfl rfl dX6_out_16 ?_
      obtain ⟨r5, h⟩ := h
      refine q_get (v := .ref (rh a0 11)) C fX6_46 hk0 (if_neg (Int.not_lt.mpr r5)) dX6_out_17 (fun g6 => ?_)
      refine q_iload_n C 1 rfl rfl dX6_out_20 ?_
      obtain ⟨r7, h⟩ := h
      refine q_iald C hk0 rfl (fun _ q => q) r7 dX6_out_21 (fun g8 => ?_)
      have h := h g8
      exact hret (M a0 11 a1) M _ _ dX6_out_22 g8 h
    · have h := h.2 b4
      refine q_lv (lv' := []) [] rfl ?_
      exact t12  M h
set_option maxHeartbeats 4000000 in
set_option maxRecDepth 100000 in
theorem mX7_out (l : Launch) (D : va_G) (cy : Nat → ClassId) (kd : gKd) (ln : gLn) (rh : gRh) (post : Int → gM → Prop) (a0 : Int) (a1 : Int) (M : gM) (hk0 : kd a0 = 7) (h : wX7_out kd ln post a0 a1 M) : gMI l D cy yX7_out cX7_out 2 .int 1 22 [.ref (gad a0), .int (gI a1)] kd ln rh M post := by
  refine gMI_of (own := RX7) (by decide) rfl (Nat.le_of_ble_eq_true rfl) ?_
  intro p e s m args below meth c A H0 Q C hret
  unfold wX7_out at h
  refine q_aload_n C 0 rfl rfl dX7_out_0 ?_
  refine q_iconst C dX7_out_1 ?_
  refine q_put (x := 0) (ty := .int) C fX7_81 hk0 (fun _ _ _ q => by cases q; rfl) (congrArg (fun z => Value.int (gI z)) gu_s) rfl rfl (show rng 0 by decide) (fun j q => absurd (show (0 : Nat) = j + 3 from q) (by omega)) dX7_out_2 ?_
  refine q_iload_n C 1 rfl rfl dX7_out_5 ?_
  refine q_iconst C dX7_out_6 ?_
  refine q_aload_n C 0 rfl rfl dX7_out_7 ?_
  refine q_get (v := .int (gI ((gu M a0 0 (-1) 0) a0 11 (-1)))) C fX7_217 hk0 rfl dX7_out_8 (fun g1 => ?_)
  have h := h g1
  refine q_iconst C dX7_out_11 ?_
  refine q_isub C dX7_out_12 ?_
  refine q_callSI (As := [.int (gI a1), .int (gI 0), .int (gI (((gu M a0 0 (-1) 0) a0 11 (-1)) - 1))]) (st := []) C vX7_84 kX7_in ⟨Nat.le_of_ble_eq_true rfl, Nat.le_of_ble_eq_true rfl⟩ ⟨Nat.le_of_ble_eq_true rfl, Nat.le_of_ble_eq_true rfl⟩ rfl rfl (Nat.le_of_ble_eq_true rfl) (mX7_in l D cy kd ln rh _ a1 0 (((gu M a0 0 (-1) 0) a0 11 (-1)) - 1) (gu M a0 0 (-1) 0)  h) dX7_out_13 (fun c3 M2 g4 h => ?_)
  have h := h g4
  refine q_if_eq (tgt := 32) C g4 (by decide) dX7_out_16 (fun b5 => ?_) (fun b5 => ?_)
  · have h := h.1 b5
    refine q_iconst C dX7_out_32 ?_
    exact hret (-1) M2 _ _ dX7_out_33 (show rng (-1) by decide) h
  · have h := h.2 b5
    refine q_aload_n C 0 rfl rfl dX7_out_19 ?_
    obtain ⟨r6, h⟩ := h
    refine q_get (v := .ref (rh a0 10)) C fX7_39 hk0 (if_neg (Int.not_lt.mpr r6)) dX7_out_20 (fun g7 => ?_)
    refine q_iload_n C 1 rfl rfl dX7_out_23 ?_
    obtain ⟨r8, h⟩ := h
    refine q_bald C hk0 rfl (fun _ q => q) r8 dX7_out_24 (fun g9 => ?_)
    have h := h g9
    refine q_sipush C (by decide) dX7_out_25 ?_
    refine q_iand C dX7_out_28 ?_
    refine q_goto (tgt := 33) C (by decide) dX7_out_29 ?_
    obtain ⟨r10, h⟩ := h
    exact hret (giand (M2 a0 10 a1) 255) M2 _ _ dX7_out_33 r10 h
