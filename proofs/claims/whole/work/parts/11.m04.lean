set_option maxHeartbeats 4000000 in
set_option maxRecDepth 100000 in
theorem mX6_squareOfText (l : Launch) (D : va_G) (cy : Nat → ClassId) (kd : gKd) (ln : gLn) (rh : gRh) (post : Int → gM → Prop) (a0 : Int) (a1 : Int) (M : gM) (hk0 : kd a0 = 6) (h : wX6_squareOfText kd ln post a0 a1 M) : gMI l D cy yX6_squareOfText cX6_squareOfText 5 .int 0 0 [.ref (gad a0), .int (gI a1)] kd ln rh M post := by
  refine gMI_of (own := RX6) (by decide) rfl (Nat.le_of_ble_eq_true rfl) ?_
  intro p e s m args below meth c A H0 Q C hret
  have t57 : ∀ (x2 : Int) (x3 : Int) (y0 : Int) (M : gM), wX6_squareOfText_57 kd ln post a0 a1 x2 x3 y0 M → gW p l e (gRm 0 0) s m args below meth c D cy A H0 Q 5 kd ln rh 0 0 M 57 [(0, .ref (gad a0)), (2, .int (gI x2)), (3, .int (gI x3))] [.int (gI y0)] := by
    intro  x2 x3 y0 M h
    unfold wX6_squareOfText_57 at h
    refine q_istore (lv' := [(4, .int (gI y0)), (0, .ref (gad a0)), (2, .int (gI x2)), (3, .int (gI x3))]) C (by decide) rfl dX6_squareOfText_57 ?_
    refine q_iload C 0 rfl dX6_squareOfText_59 ?_
    obtain ⟨r21, h⟩ := h
    refine q_if_eq (tgt := 78) C r21 (by decide) dX6_squareOfText_61 (fun b22 => ?_) (fun b22 => ?_)
    · have h := h.1 b22
      refine q_iconst C dX6_squareOfText_78 ?_
      exact hret (-1) M _ _ dX6_squareOfText_79 (show rng (-1) by decide) h
    · have h := h.2 b22
      refine q_aload_n C 1 rfl rfl dX6_squareOfText_64 ?_
      refine q_get (v := gR (M a0 1 (-1))) C fX6_52 hk0 rfl dX6_squareOfText_65 (fun g23 => ?_)
      obtain ⟨r24, h⟩ := h
      refine q_nn r24 (by decide) ?_
      refine q_get (v := .int (gI (M (M a0 1 (-1)) 0 (-1)))) C fX6_87 r24 rfl dX6_squareOfText_68 (fun g25 => ?_)
      have h := h g25
      refine q_iload_n C 3 rfl rfl dX6_squareOfText_71 ?_
      refine q_imul C dX6_squareOfText_72 ?_
      refine q_iload_n C 2 rfl rfl dX6_squareOfText_73 ?_
      refine q_iadd C dX6_squareOfText_74 ?_
      refine q_goto (tgt := 79) C (by decide) dX6_squareOfText_75 ?_
      obtain ⟨r26, h⟩ := h
      exact hret (((M (M a0 1 (-1)) 0 (-1)) * x3) + x2) M _ _ dX6_squareOfText_79 r26 h
  have t56 : ∀ (x2 : Int) (x3 : Int) (M : gM), wX6_squareOfText_56 kd ln post a0 a1 x2 x3 M → gW p l e (gRm 0 0) s m args below meth c D cy A H0 Q 5 kd ln rh 0 0 M 56 [(0, .ref (gad a0)), (2, .int (gI x2)), (3, .int (gI x3))] [] := by
    intro  x2 x3 M h
    unfold wX6_squareOfText_56 at h
    refine q_iconst C dX6_squareOfText_56 ?_
    exact t57  x2 x3 0 M h
  unfold wX6_squareOfText at h
  refine q_aload_n C 0 rfl rfl dX6_squareOfText_0 ?_
  obtain ⟨r1, h⟩ := h
  refine q_get (v := .ref (rh a0 9)) C fX6_43 hk0 (if_neg (Int.not_lt.mpr r1)) dX6_squareOfText_1 (fun g2 => ?_)
  refine q_iload_n C 1 rfl rfl dX6_squareOfText_4 ?_
  obtain ⟨r3, h⟩ := h
  refine q_iald C hk0 rfl (fun _ q => q) r3 dX6_squareOfText_5 (fun g4 => ?_)
  have h := h g4
  refine q_bipush C (by decide) dX6_squareOfText_6 ?_
  refine q_isub C dX6_squareOfText_8 ?_
  refine q_topi (fun v5 ev5 => ?_)
  have h := h v5 ev5
  refine q_istore_n (lv' := [(2, .int (gI v5)), (0, .ref (gad a0)), (1, .int (gI a1))]) C rfl (by decide) rfl dX6_squareOfText_9 ?_
  refine q_aload_n C 1 rfl rfl dX6_squareOfText_10 ?_
  refine q_get (v := .ref (rh a0 9)) C fX6_43 hk0 (if_neg (Int.not_lt.mpr r1)) dX6_squareOfText_11 (fun g6 => ?_)
  refine q_iload_n C 2 rfl rfl dX6_squareOfText_14 ?_
  refine q_iconst C dX6_squareOfText_15 ?_
  refine q_iadd C dX6_squareOfText_16 ?_
  obtain ⟨r7, h⟩ := h
  refine q_iald C hk0 rfl (fun _ q => q) r7 dX6_squareOfText_17 (fun g8 => ?_)
  have h := h g8
  refine q_bipush C (by decide) dX6_squareOfText_18 ?_
  refine q_isub C dX6_squareOfText_20 ?_
  refine q_topi (fun v9 ev9 => ?_)
  have h := h v9 ev9
  refine q_istore_n (lv' := [(3, .int (gI v9)), (2, .int (gI v5)), (0, .ref (gad a0)), (1, .int (gI a1))]) C rfl (by decide) rfl dX6_squareOfText_21 ?_
  refine q_iload_n C 1 rfl rfl dX6_squareOfText_22 ?_
  obtain ⟨r10, h⟩ := h
  refine q_if_lt (tgt := 56) C r10 (by decide) dX6_squareOfText_23 (fun b11 => ?_) (fun b11 => ?_)
  · have h := h.1 b11
    refine q_lv (lv' := [(0, .ref (gad a0)), (2, .int (gI v5)), (3, .int (gI v9))]) [2, 1, 0] rfl ?_
    exact t56  v5 v9 M h
  · have h := h.2 b11
    refine q_iload_n C 1 rfl rfl dX6_squareOfText_26 ?_
    refine q_aload_n C 2 rfl rfl dX6_squareOfText_27 ?_
    refine q_get (v := gR (M a0 1 (-1))) C fX6_52 hk0 rfl dX6_squareOfText_28 (fun g12 => ?_)
    obtain ⟨r13, h⟩ := h
    refine q_nn r13 (by decide) ?_
    refine q_get (v := .int (gI (M (M a0 1 (-1)) 0 (-1)))) C fX6_87 r13 rfl dX6_squareOfText_31 (fun g14 => ?_)
    have h := h g14
    refine q_icmp_ge (tgt := 56) C r10 g14 (by decide) dX6_squareOfText_34 (fun b15 => ?_) (fun b15 => ?_)
    · have h := h.1 b15
      refine q_lv (lv' := [(0, .ref (gad a0)), (2, .int (gI v5)), (3, .int (gI v9))]) [2, 1, 0] rfl ?_
      exact t56  v5 v9 M h
    · have h := h.2 b15
      refine q_iload_n C 0 rfl rfl dX6_squareOfText_37 ?_
      obtain ⟨r16, h⟩ := h
      refine q_if_lt (tgt := 56) C r16 (by decide) dX6_squareOfText_38 (fun b17 => ?_) (fun b17 => ?_)
      · have h := h.1 b17
        refine q_lv (lv' := [(0, .ref (gad a0)), (2, .int (gI v5)), (3, .int (gI v9))]) [2, 1, 0] rfl ?_
        exact t56  v5 v9 M h
      · have h := h.2 b17
        refine q_iload_n C 0 rfl rfl dX6_squareOfText_41 ?_
        refine q_aload_n C 2 rfl rfl dX6_squareOfText_42 ?_
        refine q_get (v := gR (M a0 1 (-1))) C fX6_52 hk0 rfl dX6_squareOfText_43 (fun g18 => ?_)
        refine q_nn r13 (by decide) ?_
        refine q_get (v := .int (gI (M (M a0 1 (-1)) 0 (-1)))) C fX6_87 r13 rfl dX6_squareOfText_46 (fun g19 => ?_)
        refine q_icmp_ge (tgt := 56) C r16 g14 (by decide) dX6_squareOfText_49 (fun b20 => ?_) (fun b20 => ?_)
        · have h := h.1 b20
          refine q_lv (lv' := [(0, .ref (gad a0)), (2, .int (gI v5)), (3, .int (gI v9))]) [2, 1, 0] rfl ?_
          exact t56  v5 v9 M h
        · have h := h.2 b20
          refine q_iconst C dX6_squareOfText_52 ?_
          refine q_goto (tgt := 57) C (by decide) dX6_squareOfText_53 ?_
          refine q_lv (lv' := [(0, .ref (gad a0)), (2, .int (gI v5)), (3, .int (gI v9))]) [2, 1, 0] rfl ?_
          exact t57  v5 v9 1 M h
set_option maxHeartbeats 4000000 in
set_option maxRecDepth 100000 in
theorem mX6_keyOfText (l : Launch) (D : va_G) (cy : Nat → ClassId) (kd : gKd) (ln : gLn) (rh : gRh) (post : Int → gM → Prop) (a0 : Int) (M : gM) (hk0 : kd a0 = 6) (h : wX6_keyOfText kd ln post a0 M) : gMI l D cy yX6_keyOfText cX6_keyOfText 8 .int 3 72 [.ref (gad a0)] kd ln rh M post := by
  refine gMI_of (own := RX6) (by decide) rfl (Nat.le_of_ble_eq_true rfl) ?_
  intro p e s m args below meth c A H0 Q C hret
  have t111 : ∀ (x1 : Int) (x2 : Int) (x3 : Int) (x4 : Int) (x5 : Int) (y0 : Int) (M : gM), wX6_keyOfText_111 kd ln post a0 x1 x2 x3 x4 x5 y0 M → gW p l e (gRm 3 72) s m args below meth c D cy A H0 Q 8 kd ln rh 0 0 M 111 [(0, .ref (gad a0)), (1, .int (gI x1)), (2, .int (gI x2)), (3, .int (gI x3)), (4, .int (gI x4)), (5, .int (gI x5))] [.int (gI y0)] := by
    intro  x1 x2 x3 x4 x5 y0 M h
    unfold wX6_keyOfText_111 at h
    refine q_istore (lv' := [(6, .int (gI y0)), (0, .ref (gad a0)), (1, .int (gI x1)), (2, .int (gI x2)), (3, .int (gI x3)), (4, .int (gI x4)), (5, .int (gI x5))]) C (by decide) rfl dX6_keyOfText_111 ?_
    refine q_iload C 0 rfl dX6_keyOfText_113 ?_
    obtain ⟨r43, h⟩ := h
    refine q_if_eq (tgt := 135) C r43 (by decide) dX6_keyOfText_115 (fun b44 => ?_) (fun b44 => ?_)
    · have h := h.1 b44
      refine q_iconst C dX6_keyOfText_135 ?_
      exact hret (-1) M _ _ dX6_keyOfText_136 (show rng (-1) by decide) h
    · have h := h.2 b44
      refine q_aload_n C 1 rfl rfl dX6_keyOfText_118 ?_
      refine q_get (v := gR (M a0 1 (-1))) C fX6_52 hk0 rfl dX6_keyOfText_119 (fun g45 => ?_)
      obtain ⟨r46, h⟩ := h
      refine q_nn r46 (by decide) ?_
      refine q_iload_n C 2 rfl rfl dX6_keyOfText_122 ?_
      refine q_iload_n C 4 rfl rfl dX6_keyOfText_123 ?_
      refine q_iload C 6 rfl dX6_keyOfText_124 ?_
      refine q_iload C 5 rfl dX6_keyOfText_126 ?_
      refine q_iload_n C 3 rfl rfl dX6_keyOfText_128 ?_
      refine q_callVI (As := [.int (gI x1), .int (gI x3), .int (gI x5), .int (gI x4), .int (gI x2)]) (st := []) C vX6_70 kX0_allows ⟨Nat.le_refl _, Nat.le_refl _⟩ ⟨by decide, by decide⟩ rfl r46 ⟨_, _, rfl⟩ (by decide) rfl (Nat.le_of_ble_eq_true rfl) (mX0_allows l D cy kd ln rh _ (M a0 1 (-1)) x1 x3 x5 x4 x2 M r46 h) dX6_keyOfText_129 (fun c48 M47 g49 h => ?_)
      have h := h g49
      refine q_if_ne (tgt := 137) C g49 (by decide) dX6_keyOfText_132 (fun b50 => ?_) (fun b50 => ?_)
      · have h := h.1 b50
        refine q_aload_n C 1 rfl rfl dX6_keyOfText_137 ?_
        refine q_get (v := gR (M47 a0 1 (-1))) C fX6_52 hk0 rfl dX6_keyOfText_138 (fun g51 => ?_)
        obtain ⟨r52, h⟩ := h
        refine q_nn r52 (by decide) ?_
        refine q_get (v := .int (gI (M47 (M47 a0 1 (-1)) 1 (-1)))) C fX6_251 r52 rfl dX6_keyOfText_141 (fun g53 => ?_)
        have h := h g53
        refine q_topi (fun v54 ev54 => ?_)
        have h := h v54 ev54
        have gv54 : rng v54 := by rw [ev54]; exact g53
        refine q_istore (lv' := [(7, .int (gI v54)), (6, .int (gI y0)), (0, .ref (gad a0)), (1, .int (gI x1)), (2, .int (gI x2)), (3, .int (gI x3)), (4, .int (gI x4)), (5, .int (gI x5))]) C (by decide) rfl dX6_keyOfText_144 ?_
        refine q_iconst C dX6_keyOfText_146 ?_
        refine q_iload_n C 3 rfl rfl dX6_keyOfText_147 ?_
        refine q_iload C 0 rfl dX6_keyOfText_148 ?_
        refine q_imul C dX6_keyOfText_150 ?_
        refine q_iload_n C 5 rfl rfl dX6_keyOfText_151 ?_
        refine q_iadd C dX6_keyOfText_152 ?_
        refine q_iload C 0 rfl dX6_keyOfText_153 ?_
        refine q_imul C dX6_keyOfText_155 ?_
        refine q_iload C 7 rfl dX6_keyOfText_156 ?_
        refine q_iadd C dX6_keyOfText_158 ?_
        refine q_iload C 0 rfl dX6_keyOfText_159 ?_
        refine q_imul C dX6_keyOfText_161 ?_
        refine q_iload C 6 rfl dX6_keyOfText_162 ?_
        refine q_iadd C dX6_keyOfText_164 ?_
        refine q_imul C dX6_keyOfText_165 ?_
        refine q_iload_n C 4 rfl rfl dX6_keyOfText_166 ?_
        refine q_iadd C dX6_keyOfText_167 ?_
        obtain ⟨r55, h⟩ := h
        exact hret ((2 * ((((((x1 * v54) + x3) * v54) + x5) * v54) + x4)) + x2) M47 _ _ dX6_keyOfText_168 r55 h
      · have h := h.2 b50
        refine q_iconst C dX6_keyOfText_135 ?_
        exact hret (-1) M47 _ _ dX6_keyOfText_136 (show rng (-1) by decide) h
  have t110 : ∀ (x1 : Int) (x2 : Int) (x3 : Int) (x4 : Int) (x5 : Int) (M : gM), wX6_keyOfText_110 kd ln post a0 x1 x2 x3 x4 x5 M → gW p l e (gRm 3 72) s m args below meth c D cy A H0 Q 8 kd ln rh 0 0 M 110 [(0, .ref (gad a0)), (1, .int (gI x1)), (2, .int (gI x2)), (3, .int (gI x3)), (4, .int (gI x4)), (5, .int (gI x5))] [] := by
    intro  x1 x2 x3 x4 x5 M h
    unfold wX6_keyOfText_110 at h
    refine q_iconst C dX6_keyOfText_110 ?_
    exact t111  x1 x2 x3 x4 x5 0 M h
  unfold wX6_keyOfText at h
  refine q_gets (t := 0) C (Or.inl ⟨rfl, rfl⟩) zX6_180 dX6_keyOfText_0 ?_
  refine q_aload_n C 0 rfl rfl dX6_keyOfText_3 ?_
  obtain ⟨r1, h⟩ := h
  refine q_get (v := .ref (rh a0 9)) C fX6_43 hk0 (if_neg (Int.not_lt.mpr r1)) dX6_keyOfText_4 (fun g2 => ?_)
  refine q_iconst C dX6_keyOfText_7 ?_
  obtain ⟨r3, h⟩ := h
  refine q_iald C hk0 rfl (fun _ q => q) r3 dX6_keyOfText_8 (fun g4 => ?_)
  have h := h g4
  refine q_callSI (As := [.ref (cy (20 + 0)), .int (gI (M a0 9 4))]) (st := []) C vX6_244 kX6_letterAt ⟨Nat.le_refl _, Nat.le_refl _⟩ ⟨by decide, by decide⟩ rfl rfl (Nat.le_of_ble_eq_true rfl) (mX6_letterAt l D cy kd ln rh _ 0 (M a0 9 4) M (by decide) h) dX6_keyOfText_9 (fun c6 M5 g7 h => ?_)
  have h := h g7
  refine q_istore_n (lv' := [(1, .int (gI c6)), (0, .ref (gad a0))]) C rfl (by decide) rfl dX6_keyOfText_12 ?_
  refine q_gets (t := 1) C (Or.inr ⟨rfl, rfl⟩) zX6_184 dX6_keyOfText_13 ?_
  refine q_aload_n C 1 rfl rfl dX6_keyOfText_16 ?_
  refine q_get (v := .ref (rh a0 9)) C fX6_43 hk0 (if_neg (Int.not_lt.mpr r1)) dX6_keyOfText_17 (fun g8 => ?_)
  refine q_bipush C (by decide) dX6_keyOfText_20 ?_
  obtain ⟨r9, h⟩ := h
  refine q_iald C hk0 rfl (fun _ q => q) r9 dX6_keyOfText_22 (fun g10 => ?_)
  have h := h g10
  refine q_callSI (As := [.ref (cy (20 + 1)), .int (gI (M5 a0 9 12))]) (st := []) C vX6_244 kX6_letterAt ⟨Nat.le_refl _, Nat.le_refl _⟩ ⟨by decide, by decide⟩ rfl rfl (Nat.le_of_ble_eq_true rfl) (mX6_letterAt l D cy kd ln rh _ 1 (M5 a0 9 12) M5 (by decide) h) dX6_keyOfText_23 (fun c12 M11 g13 h => ?_)
  have h := h g13
  refine q_istore_n (lv' := [(2, .int (gI c12)), (1, .int (gI c6)), (0, .ref (gad a0))]) C rfl (by decide) rfl dX6_keyOfText_26 ?_
  refine q_aload_n C 2 rfl rfl dX6_keyOfText_27 ?_
  refine q_iconst C dX6_keyOfText_28 ?_
  refine q_callVI (As := [.int (gI 1)]) (st := []) C vX6_248 kX6_squareOfText ⟨Nat.le_refl _, Nat.le_refl _⟩ ⟨by decide, by decide⟩ rfl hk0 ⟨_, _, rfl⟩ (by decide) rfl (Nat.le_of_ble_eq_true rfl) (mX6_squareOfText l D cy kd ln rh _ a0 1 M11 hk0 h) dX6_keyOfText_29 (fun c15 M14 g16 h => ?_)
  have h := h g16
  refine q_istore_n (lv' := [(3, .int (gI c15)), (2, .int (gI c12)), (1, .int (gI c6)), (0, .ref (gad a0))]) C rfl (by decide) rfl dX6_keyOfText_32 ?_
  refine q_aload_n C 3 rfl rfl dX6_keyOfText_33 ?_
  refine q_iconst C dX6_keyOfText_34 ?_
  refine q_callVI (As := [.int (gI 5)]) (st := []) C vX6_248 kX6_squareOfText ⟨Nat.le_refl _, Nat.le_refl _⟩ ⟨by decide, by decide⟩ rfl hk0 ⟨_, _, rfl⟩ (by decide) rfl (Nat.le_of_ble_eq_true rfl) (mX6_squareOfText l D cy kd ln rh _ a0 5 M14 hk0 h) dX6_keyOfText_35 (fun c18 M17 g19 h => ?_)
  have h := h g19
  refine q_istore (lv' := [(4, .int (gI c18)), (3, .int (gI c15)), (2, .int (gI c12)), (1, .int (gI c6)), (0, .ref (gad a0))]) C (by decide) rfl dX6_keyOfText_38 ?_
  refine q_aload_n C 4 rfl rfl dX6_keyOfText_40 ?_
  refine q_bipush C (by decide) dX6_keyOfText_41 ?_
  refine q_callVI (As := [.int (gI 9)]) (st := []) C vX6_248 kX6_squareOfText ⟨Nat.le_refl _, Nat.le_refl _⟩ ⟨by decide, by decide⟩ rfl hk0 ⟨_, _, rfl⟩ (by decide) rfl (Nat.le_of_ble_eq_true rfl) (mX6_squareOfText l D cy kd ln rh _ a0 9 M17 hk0 h) dX6_keyOfText_43 (fun c21 M20 g22 h => ?_)
  have h := h g22
  refine q_istore (lv' := [(5, .int (gI c21)), (4, .int (gI c18)), (3, .int (gI c15)), (2, .int (gI c12)), (1, .int (gI c6)), (0, .ref (gad a0))]) C (by decide) rfl dX6_keyOfText_46 ?_
  refine q_aload_n C 5 rfl rfl dX6_keyOfText_48 ?_
  refine q_get (v := .ref (rh a0 9)) C fX6_43 hk0 (if_neg (Int.not_lt.mpr r1)) dX6_keyOfText_49 (fun g23 => ?_)
  refine q_iconst C dX6_keyOfText_52 ?_
  obtain ⟨r24, h⟩ := h
  refine q_iald C hk0 rfl (fun _ q => q) r24 dX6_keyOfText_53 (fun g25 => ?_)
  have h := h g25
  refine q_bipush C (by decide) dX6_keyOfText_54 ?_
  refine q_icmp_ne (tgt := 110) C g25 (show rng 75 by decide) (by decide) dX6_keyOfText_56 (fun b26 => ?_) (fun b26 => ?_)
  · have h := h.1 b26
    refine q_lv (lv' := [(0, .ref (gad a0)), (1, .int (gI c6)), (2, .int (gI c12)), (3, .int (gI c15)), (4, .int (gI c18)), (5, .int (gI c21))]) [5, 4, 3, 2, 1, 0] rfl ?_
    exact t110  c6 c12 c15 c18 c21 M20 h
  · have h := h.2 b26
    refine q_aload_n C 5 rfl rfl dX6_keyOfText_59 ?_
    refine q_get (v := .ref (rh a0 9)) C fX6_43 hk0 (if_neg (Int.not_lt.mpr r1)) dX6_keyOfText_60 (fun g27 => ?_)
    refine q_iconst C dX6_keyOfText_63 ?_
    obtain ⟨r28, h⟩ := h
    refine q_iald C hk0 rfl (fun _ q => q) r28 dX6_keyOfText_64 (fun g29 => ?_)
    have h := h g29
    refine q_bipush C (by decide) dX6_keyOfText_65 ?_
    refine q_icmp_ne (tgt := 110) C g29 (show rng 32 by decide) (by decide) dX6_keyOfText_67 (fun b30 => ?_) (fun b30 => ?_)
    · have h := h.1 b30
      refine q_lv (lv' := [(0, .ref (gad a0)), (1, .int (gI c6)), (2, .int (gI c12)), (3, .int (gI c15)), (4, .int (gI c18)), (5, .int (gI c21))]) [5, 4, 3, 2, 1, 0] rfl ?_
      exact t110  c6 c12 c15 c18 c21 M20 h
    · have h := h.2 b30
      refine q_aload_n C 5 rfl rfl dX6_keyOfText_70 ?_
      refine q_get (v := .ref (rh a0 9)) C fX6_43 hk0 (if_neg (Int.not_lt.mpr r1)) dX6_keyOfText_71 (fun g31 => ?_)
      refine q_bipush C (by decide) dX6_keyOfText_74 ?_
      obtain ⟨r32, h⟩ := h
      refine q_iald C hk0 rfl (fun _ q => q) r32 dX6_keyOfText_76 (fun g33 => ?_)
      have h := h g33
      refine q_bipush C (by decide) dX6_keyOfText_77 ?_
      refine q_icmp_ne (tgt := 110) C g33 (show rng 32 by decide) (by decide) dX6_keyOfText_79 (fun b34 => ?_) (fun b34 => ?_)
      · have h := h.1 b34
        refine q_lv (lv' := [(0, .ref (gad a0)), (1, .int (gI c6)), (2, .int (gI c12)), (3, .int (gI c15)), (4, .int (gI c18)), (5, .int (gI c21))]) [5, 4, 3, 2, 1, 0] rfl ?_
        exact t110  c6 c12 c15 c18 c21 M20 h
      · have h := h.2 b34
        refine q_aload_n C 5 rfl rfl dX6_keyOfText_82 ?_
        refine q_get (v := .ref (rh a0 9)) C fX6_43 hk0 (if_neg (Int.not_lt.mpr r1)) dX6_keyOfText_83 (fun g35 => ?_)
        refine q_bipush C (by decide) dX6_keyOfText_86 ?_
        obtain ⟨r36, h⟩ := h
        refine q_iald C hk0 rfl (fun _ q => q) r36 dX6_keyOfText_88 (fun g37 => ?_)
        have h := h g37
        refine q_bipush C (by decide) dX6_keyOfText_89 ?_
        refine q_icmp_ne (tgt := 110) C g37 (show rng 107 by decide) (by decide) dX6_keyOfText_91 (fun b38 => ?_) (fun b38 => ?_)
        · have h := h.1 b38
          refine q_lv (lv' := [(0, .ref (gad a0)), (1, .int (gI c6)), (2, .int (gI c12)), (3, .int (gI c15)), (4, .int (gI c18)), (5, .int (gI c21))]) [5, 4, 3, 2, 1, 0] rfl ?_
          exact t110  c6 c12 c15 c18 c21 M20 h
        · have h := h.2 b38
          refine q_aload_n C 5 rfl rfl dX6_keyOfText_94 ?_
          refine q_get (v := .ref (rh a0 9)) C fX6_43 hk0 (if_neg (Int.not_lt.mpr r1)) dX6_keyOfText_95 (fun g39 => ?_)
          refine q_bipush C (by decide) dX6_keyOfText_98 ?_
          obtain ⟨r40, h⟩ := h
          refine q_iald C hk0 rfl (fun _ q => q) r40 dX6_keyOfText_100 (fun g41 => ?_)
          have h := h g41
          refine q_bipush C (by decide) dX6_keyOfText_101 ?_
          refine q_icmp_ne (tgt := 110) C g41 (show rng 32 by decide) (by decide) dX6_keyOfText_103 (fun b42 => ?_) (fun b42 => ?_)
          · have h := h.1 b42
            refine q_lv (lv' := [(0, .ref (gad a0)), (1, .int (gI c6)), (2, .int (gI c12)), (3, .int (gI c15)), (4, .int (gI c18)), (5, .int (gI c21))]) [5, 4, 3, 2, 1, 0] rfl ?_
            exact t110  c6 c12 c15 c18 c21 M20 h
          · have h := h.2 b42
            refine q_iconst C dX6_keyOfText_106 ?_
            refine q_goto (tgt := 111) C (by decide) dX6_keyOfText_107 ?_
            refine q_lv (lv' := [(0, .ref (gad a0)), (1, .int (gI c6)), (2, .int (gI c12)), (3, .int (gI c15)), (4, .int (gI c18)), (5, .int (gI c21))]) [5, 4, 3, 2, 1, 0] rfl ?_
            exact t111  c6 c12 c15 c18 c21 1 M20 h
set_option maxHeartbeats 4000000 in
set_option maxRecDepth 100000 in
theorem mX6_move (l : Launch) (D : va_G) (cy : Nat → ClassId) (kd : gKd) (ln : gLn) (rh : gRh) (post : Int → gM → Prop) (a0 : Int) (a1 : Int) (a2 : Int) (M : gM) (hk0 : kd a0 = 6) (h : wX6_move kd ln post a0 a1 a2 M) : gMI l D cy yX6_move cX6_move 3 .int 1 22 [.ref (gad a0), .int (gI a1), .int (gI a2)] kd ln rh M post := by
  refine gMI_of (own := RX6) (by decide) rfl (Nat.le_of_ble_eq_true rfl) ?_
  intro p e s m args below meth c A H0 Q C hret
  unfold wX6_move at h
  refine q_aload_n C 0 rfl rfl dX6_move_0 ?_
  refine q_get (v := gR (M a0 3 (-1))) C fX6_22 hk0 rfl dX6_move_1 (fun g1 => ?_)
  obtain ⟨r2, h⟩ := h
  refine q_nn r2 (by decide) ?_
  refine q_iload_n C 1 rfl rfl dX6_move_4 ?_
  refine q_iload_n C 2 rfl rfl dX6_move_5 ?_
  refine q_callVI (As := [.int (gI a1), .int (gI a2)]) (st := []) C vX6_123 kX1_tell ⟨Nat.le_refl _, Nat.le_refl _⟩ ⟨by decide, by decide⟩ rfl r2 ⟨_, _, rfl⟩ (by decide) rfl (Nat.le_of_ble_eq_true rfl) (mX1_tell l D cy kd ln rh _ (M a0 3 (-1)) a1 a2 M r2 h) dX6_move_6 (fun c4 M3 g5 h => ?_)
  have h := h g5
  exact hret c4 M3 _ _ dX6_move_9 g5 h
set_option maxHeartbeats 4000000 in
set_option maxRecDepth 100000 in
theorem mX6_moves (l : Launch) (D : va_G) (cy : Nat → ClassId) (kd : gKd) (ln : gLn) (rh : gRh) (post : Int → gM → Prop) (a0 : Int) (a1 : Int) (a2 : Int) (a3 : Int) (a4 : Int) (a5 : Int) (M : gM) (hk0 : kd a0 = 6) (h : wX6_moves kd ln post a0 a1 a2 a3 a4 a5 M) : gMI l D cy yX6_moves cX6_moves 8 .int 3 72 [.ref (gad a0), .int (gI a1), .int (gI a2), .int (gI a3), .int (gI a4), .int (gI a5)] kd ln rh M post := by
  refine gMI_of (own := RX6) (by decide) rfl (Nat.le_of_ble_eq_true rfl) ?_
  intro p e s m args below meth c A H0 Q C hret
  have t88 : ∀ (x6 : Int) (y0 : Int) (M : gM), wX6_moves_88 kd ln post a0 a1 a2 a3 a4 a5 x6 y0 M → gW p l e (gRm 3 72) s m args below meth c D cy A H0 Q 8 kd ln rh 0 0 M 88 [(0, .ref (gad a0)), (2, .int (gI a2)), (3, .int (gI a3)), (4, .int (gI a4)), (6, .int (gI x6))] [.int (gI y0)] := by
    intro  x6 y0 M h
    unfold wX6_moves_88 at h
    refine q_istore (lv' := [(7, .int (gI y0)), (0, .ref (gad a0)), (2, .int (gI a2)), (3, .int (gI a3)), (4, .int (gI a4)), (6, .int (gI x6))]) C (by decide) rfl dX6_moves_88 ?_
    refine q_aload_n C 1 rfl rfl dX6_moves_90 ?_
    refine q_get (v := gR (M a0 1 (-1))) C fX6_52 hk0 rfl dX6_moves_91 (fun g35 => ?_)
    obtain ⟨r36, h⟩ := h
    refine q_nn r36 (by decide) ?_
    refine q_iload_n C 2 rfl rfl dX6_moves_94 ?_
    refine q_iload_n C 3 rfl rfl dX6_moves_95 ?_
    refine q_iload C 4 rfl dX6_moves_96 ?_
    refine q_callVL (As := [.int (gI a2), .int (gI a3), .int (gI a4)]) (st := []) C vX6_94 kX0_whiteTargets ⟨Nat.le_refl _, Nat.le_refl _⟩ ⟨by decide, by decide⟩ rfl r36 ⟨_, _, rfl⟩ (by decide) rfl (Nat.le_of_ble_eq_true rfl) (mX0_whiteTargets l D cy kd ln rh _ (M a0 1 (-1)) a2 a3 a4 M r36 h) dX6_moves_98 (fun c38 M37 h => ?_)
    refine q_callSI (As := [.long (gL c38)]) (st := []) C vX6_78 kJ13_bitCount_95d88 ⟨Nat.le_refl _, Nat.le_refl _⟩ ⟨by decide, by decide⟩ rfl rfl (Nat.le_of_ble_eq_true rfl) (mJ13_bitCount_95d88 l D cy kd ln rh _ c38 M37  h) dX6_moves_101 (fun c41 M40 g42 h => ?_)
    have h := h g42
    refine q_iload C 0 rfl dX6_moves_104 ?_
    refine q_iload C 5 rfl dX6_moves_106 ?_
    refine q_imul C dX6_moves_108 ?_
    refine q_iadd C dX6_moves_109 ?_
    obtain ⟨r43, h⟩ := h
    exact hret (c41 + (y0 * x6)) M40 _ _ dX6_moves_110 r43 h
  have t87 : ∀ (x6 : Int) (M : gM), wX6_moves_87 kd ln post a0 a1 a2 a3 a4 a5 x6 M → gW p l e (gRm 3 72) s m args below meth c D cy A H0 Q 8 kd ln rh 0 0 M 87 [(0, .ref (gad a0)), (2, .int (gI a2)), (3, .int (gI a3)), (4, .int (gI a4)), (6, .int (gI x6))] [] := by
    intro  x6 M h
    unfold wX6_moves_87 at h
    refine q_iconst C dX6_moves_87 ?_
    exact t88  x6 1 M h
  unfold wX6_moves at h
  refine q_aload_n C 0 rfl rfl dX6_moves_0 ?_
  refine q_get (v := gR (M a0 1 (-1))) C fX6_52 hk0 rfl dX6_moves_1 (fun g1 => ?_)
  obtain ⟨r2, h⟩ := h
  refine q_nn r2 (by decide) ?_
  refine q_iload_n C 1 rfl rfl dX6_moves_4 ?_
  refine q_iload_n C 2 rfl rfl dX6_moves_5 ?_
  refine q_iload_n C 3 rfl rfl dX6_moves_6 ?_
  refine q_iload C 4 rfl dX6_moves_7 ?_
  refine q_iload C 5 rfl dX6_moves_9 ?_
  refine q_callVI (As := [.int (gI a1), .int (gI a2), .int (gI a3), .int (gI a4), .int (gI a5)]) (st := []) C vX6_70 kX0_allows ⟨Nat.le_refl _, Nat.le_refl _⟩ ⟨by decide, by decide⟩ rfl r2 ⟨_, _, rfl⟩ (by decide) rfl (Nat.le_of_ble_eq_true rfl) (mX0_allows l D cy kd ln rh _ (M a0 1 (-1)) a1 a2 a3 a4 a5 M r2 h) dX6_moves_11 (fun c4 M3 g5 h => ?_)
  have h := h g5
  refine q_if_ne (tgt := 19) C g5 (by decide) dX6_moves_14 (fun b6 => ?_) (fun b6 => ?_)
  · have h := h.1 b6
    refine q_iload C 5 rfl dX6_moves_19 ?_
    refine q_iconst C dX6_moves_21 ?_
    obtain ⟨r7, h⟩ := h
    refine q_icmp_ne (tgt := 41) C r7 (show rng 1 by decide) (by decide) dX6_moves_22 (fun b8 => ?_) (fun b8 => ?_)
    · have h := h.1 b8
      refine q_aload_n C 0 rfl rfl dX6_moves_41 ?_
      refine q_get (v := gR (M3 a0 1 (-1))) C fX6_52 hk0 rfl dX6_moves_42 (fun g9 => ?_)
      obtain ⟨r10, h⟩ := h
      refine q_nn r10 (by decide) ?_
      refine q_iload_n C 1 rfl rfl dX6_moves_45 ?_
      refine q_iload_n C 2 rfl rfl dX6_moves_46 ?_
      refine q_iload_n C 3 rfl rfl dX6_moves_47 ?_
      refine q_iload C 4 rfl dX6_moves_48 ?_
      refine q_callVL (As := [.int (gI a1), .int (gI a2), .int (gI a3), .int (gI a4)]) (st := []) C vX6_84 kX0_manTargets ⟨Nat.le_refl _, Nat.le_refl _⟩ ⟨by decide, by decide⟩ rfl r10 ⟨_, _, rfl⟩ (by decide) rfl (Nat.le_of_ble_eq_true rfl) (mX0_manTargets l D cy kd ln rh _ (M3 a0 1 (-1)) a1 a2 a3 a4 M3 r10 h) dX6_moves_50 (fun c12 M11 h => ?_)
      refine q_callSI (As := [.long (gL c12)]) (st := []) C vX6_78 kJ13_bitCount_95d88 ⟨Nat.le_refl _, Nat.le_refl _⟩ ⟨by decide, by decide⟩ rfl rfl (Nat.le_of_ble_eq_true rfl) (mJ13_bitCount_95d88 l D cy kd ln rh _ c12 M11  h) dX6_moves_53 (fun c15 M14 g16 h => ?_)
      have h := h g16
      refine q_istore (lv' := [(6, .int (gI c15)), (0, .ref (gad a0)), (1, .int (gI a1)), (2, .int (gI a2)), (3, .int (gI a3)), (4, .int (gI a4)), (5, .int (gI a5))]) C (by decide) rfl dX6_moves_56 ?_
      refine q_iload_n C 2 rfl rfl dX6_moves_58 ?_
      refine q_iconst C dX6_moves_59 ?_
      obtain ⟨r17, h⟩ := h
      refine q_icmp_ne (tgt := 87) C r17 (show rng 2 by decide) (by decide) dX6_moves_60 (fun b18 => ?_) (fun b18 => ?_)
      · have h := h.1 b18
        refine q_lv (lv' := [(0, .ref (gad a0)), (2, .int (gI a2)), (3, .int (gI a3)), (4, .int (gI a4)), (6, .int (gI c15))]) [1, 3, 4, 5, 0] rfl ?_
        exact t87  c15 M14 h
      · have h := h.2 b18
        refine q_aload_n C 1 rfl rfl dX6_moves_63 ?_
        refine q_get (v := gR (M14 a0 1 (-1))) C fX6_52 hk0 rfl dX6_moves_64 (fun g19 => ?_)
        obtain ⟨r20, h⟩ := h
        refine q_nn r20 (by decide) ?_
        refine q_iload C 5 rfl dX6_moves_67 ?_
        refine q_aload_n C 1 rfl rfl dX6_moves_69 ?_
        refine q_get (v := gR (M14 a0 1 (-1))) C fX6_52 hk0 rfl dX6_moves_70 (fun g21 => ?_)
        refine q_nn r20 (by decide) ?_
        refine q_get (v := .int (gI (M14 (M14 a0 1 (-1)) 0 (-1)))) C fX6_87 r20 rfl dX6_moves_73 (fun g22 => ?_)
        have h := h g22
        refine q_iadd C dX6_moves_76 ?_
        refine q_callVI (As := [.int (gI (a4 + (M14 (M14 a0 1 (-1)) 0 (-1))))]) (st := []) C vX6_90 kX0_isLastRank ⟨Nat.le_refl _, Nat.le_refl _⟩ ⟨by decide, by decide⟩ rfl r20 ⟨_, _, rfl⟩ (by decide) rfl (Nat.le_of_ble_eq_true rfl) (mX0_isLastRank l D cy kd ln rh _ (M14 a0 1 (-1)) (a4 + (M14 (M14 a0 1 (-1)) 0 (-1))) M14 r20 h) dX6_moves_77 (fun c24 M23 g25 h => ?_)
        have h := h g25
        refine q_if_eq (tgt := 87) C g25 (by decide) dX6_moves_80 (fun b26 => ?_) (fun b26 => ?_)
        · have h := h.1 b26
          refine q_lv (lv' := [(0, .ref (gad a0)), (2, .int (gI a2)), (3, .int (gI a3)), (4, .int (gI a4)), (6, .int (gI c15))]) [1, 3, 4, 5, 0] rfl ?_
          exact t87  c15 M23 h
        · have h := h.2 b26
          refine q_iconst C dX6_moves_83 ?_
          refine q_goto (tgt := 88) C (by decide) dX6_moves_84 ?_
          refine q_lv (lv' := [(0, .ref (gad a0)), (2, .int (gI a2)), (3, .int (gI a3)), (4, .int (gI a4)), (6, .int (gI c15))]) [1, 3, 4, 5, 0] rfl ?_
          exact t88  c15 4 M23 h
    · have h := h.2 b8
      refine q_aload_n C 0 rfl rfl dX6_moves_25 ?_
      refine q_get (v := gR (M3 a0 1 (-1))) C fX6_52 hk0 rfl dX6_moves_26 (fun g27 => ?_)
      obtain ⟨r28, h⟩ := h
      refine q_nn r28 (by decide) ?_
      refine q_iload_n C 1 rfl rfl dX6_moves_29 ?_
      refine q_iload_n C 2 rfl rfl dX6_moves_30 ?_
      refine q_iload_n C 3 rfl rfl dX6_moves_31 ?_
      refine q_iload C 4 rfl dX6_moves_32 ?_
      refine q_callVL (As := [.int (gI a1), .int (gI a2), .int (gI a3), .int (gI a4)]) (st := []) C vX6_74 kX0_blackTargets ⟨Nat.le_refl _, Nat.le_refl _⟩ ⟨by decide, by decide⟩ rfl r28 ⟨_, _, rfl⟩ (by decide) rfl (Nat.le_of_ble_eq_true rfl) (mX0_blackTargets l D cy kd ln rh _ (M3 a0 1 (-1)) a1 a2 a3 a4 M3 r28 h) dX6_moves_34 (fun c30 M29 h => ?_)
      refine q_callSI (As := [.long (gL c30)]) (st := []) C vX6_78 kJ13_bitCount_95d88 ⟨Nat.le_refl _, Nat.le_refl _⟩ ⟨by decide, by decide⟩ rfl rfl (Nat.le_of_ble_eq_true rfl) (mJ13_bitCount_95d88 l D cy kd ln rh _ c30 M29  h) dX6_moves_37 (fun c33 M32 g34 h => ?_)
      have h := h g34
      exact hret c33 M32 _ _ dX6_moves_40 g34 h
  · have h := h.2 b6
    refine q_iconst C dX6_moves_17 ?_
    exact hret (-1) M3 _ _ dX6_moves_18 (show rng (-1) by decide) h
set_option maxHeartbeats 4000000 in
set_option maxRecDepth 100000 in
theorem mX6_out (l : Launch) (D : va_G) (cy : Nat → ClassId) (kd : gKd) (ln : gLn) (rh : gRh) (post : Int → gM → Prop) (a0 : Int) (a1 : Int) (M : gM) (hk0 : kd a0 = 6) (h : wX6_out kd ln post a0 a1 M) : gMI l D cy yX6_out cX6_out 2 .int 0 0 [.ref (gad a0), .int (gI a1)] kd ln rh M post := by
  refine gMI_of (own := RX6) (by decide) rfl (Nat.le_of_ble_eq_true rfl) ?_
  intro p e s m args below meth c A H0 Q C hret
  have t12 : ∀ (M : gM), wX6_out_12 kd ln post a0 a1  M → gW p l e (gRm 0 0) s m args below meth c D cy A H0 Q 2 kd ln rh 0 0 M 12 [] [] := by
    intro   M h
    unfold wX6_out_12 at h
    refine q_iconst C dX6_out_12 ?_
    refine q_goto (tgt := 22) C (by decide) dX6_out_13 ?_
    exact hret (-1) M _ _ dX6_out_22 (show rng (-1) by decide) h
  unfold wX6_out at h
  refine q_iload_n C 1 rfl rfl dX6_out_0 ?_
  obtain ⟨r1, h⟩ := h
  refine q_if_lt (tgt := 12) C r1 (by decide) dX6_out_1 (fun b2 => ?_) (fun b2 => ?_)
  · have h := h.1 b2
    refine q_lv (lv' := []) [] rfl ?_
    exact t12  M h
  · have h := h.2 b2
    refine q_iload_n C 1 rfl rfl dX6_out_4 ?_
    refine q_aload_n C 0 rfl rfl dX6_out_5 ?_
    refine q_get (v := .int (gI (M a0 12 (-1)))) C fX6_187 hk0 rfl dX6_out_6 (fun g3 => ?_)
    have h := h g3
    refine q_icmp_lt (tgt := 16) C r1 g3 (by decide) dX6_out_9 (fun b4 => ?_) (fun b4 => ?_)
    · have h := h.1 b4
      refine q_aload_n C 0 rfl rfl dX6_out_16 ?_
      obtain ⟨r5, h⟩ := h
      refine q_get (v := .ref (rh a0 11)) C fX6_46 hk0 (if_neg (Int.not_lt.mpr r5)) dX6_out_17 (fun g6 => ?_)
      refine q_iload_n C 1 rfl rfl dX6_out_20 ?_
      obtain ⟨r7, h⟩ := h
      refine q_iald C hk0 rfl (fun _ q => q) r7 dX6_out_21 (fun g8 => ?_)
      have h := h g8
      exact hret (M a0 11 a1) M _ _ dX6_out_22 g8 h
    · have h := h.2 b4
      refine q_lv (lv' := []) [] rfl ?_
      exact t12  M h
set_option maxHeartbeats 4000000 in
set_option maxRecDepth 100000 in
theorem mX6_ply (l : Launch) (D : va_G) (cy : Nat → ClassId) (kd : gKd) (ln : gLn) (rh : gRh) (post : Int → gM → Prop) (a0 : Int) (a1 : Int) (a2 : Int) (M : gM) (hk0 : kd a0 = 6) (h : wX6_ply kd ln post a0 a1 a2 M) : gMI l D cy yX6_ply cX6_ply 3 .int 0 0 [.ref (gad a0), .int (gI a1), .int (gI a2)] kd ln rh M post := by
  refine gMI_of (own := RX6) (by decide) rfl (Nat.le_of_ble_eq_true rfl) ?_
  intro p e s m args below meth c A H0 Q C hret
  unfold wX6_ply at h
  refine q_iload_n C 1 rfl rfl dX6_ply_0 ?_
  obtain ⟨r1, h⟩ := h
  refine q_if_lt (tgt := 21) C r1 (by decide) dX6_ply_1 (fun b2 => ?_) (fun b2 => ?_)
  · have h := h.1 b2
    refine q_iconst C dX6_ply_21 ?_
    exact hret (-1) M _ _ dX6_ply_22 (show rng (-1) by decide) h
  · have h := h.2 b2
    refine q_iload_n C 1 rfl rfl dX6_ply_4 ?_
    refine q_aload_n C 0 rfl rfl dX6_ply_5 ?_
    refine q_get (v := .int (gI (M a0 8 (-1)))) C fX6_56 hk0 rfl dX6_ply_6 (fun g3 => ?_)
    have h := h g3
    refine q_icmp_ge (tgt := 21) C r1 g3 (by decide) dX6_ply_9 (fun b4 => ?_) (fun b4 => ?_)
    · have h := h.1 b4
      refine q_iconst C dX6_ply_21 ?_
      exact hret (-1) M _ _ dX6_ply_22 (show rng (-1) by decide) h
    · have h := h.2 b4
      refine q_iload_n C 2 rfl rfl dX6_ply_12 ?_
      obtain ⟨r5, h⟩ := h
      refine q_if_lt (tgt := 21) C r5 (by decide) dX6_ply_13 (fun b6 => ?_) (fun b6 => ?_)
      · have h := h.1 b6
        refine q_iconst C dX6_ply_21 ?_
        exact hret (-1) M _ _ dX6_ply_22 (show rng (-1) by decide) h
      · have h := h.2 b6
        refine q_iload_n C 2 rfl rfl dX6_ply_16 ?_
        refine q_iconst C dX6_ply_17 ?_
        refine q_icmp_lt (tgt := 23) C r5 (show rng 5 by decide) (by decide) dX6_ply_18 (fun b7 => ?_) (fun b7 => ?_)
        · have h := h.1 b7
          refine q_aload_n C 0 rfl rfl dX6_ply_23 ?_
          obtain ⟨r8, h⟩ := h
          refine q_get (v := .ref (rh a0 7)) C fX6_39 hk0 (if_neg (Int.not_lt.mpr r8)) dX6_ply_24 (fun g9 => ?_)
          refine q_iload_n C 1 rfl rfl dX6_ply_27 ?_
          refine q_iconst C dX6_ply_28 ?_
          refine q_imul C dX6_ply_29 ?_
          refine q_iload_n C 2 rfl rfl dX6_ply_30 ?_
          refine q_iadd C dX6_ply_31 ?_
          obtain ⟨r10, h⟩ := h
          refine q_iald C hk0 rfl (fun _ q => q) r10 dX6_ply_32 (fun g11 => ?_)
          have h := h g11
          exact hret (M a0 7 ((a1 * 5) + a2)) M _ _ dX6_ply_33 g11 h
        · have h := h.2 b7
          refine q_iconst C dX6_ply_21 ?_
          exact hret (-1) M _ _ dX6_ply_22 (show rng (-1) by decide) h
set_option maxHeartbeats 4000000 in
set_option maxRecDepth 100000 in
theorem mX6_read (l : Launch) (D : va_G) (cy : Nat → ClassId) (kd : gKd) (ln : gLn) (rh : gRh) (post : Int → gM → Prop) (a0 : Int) (a1 : Int) (M : gM) (hk0 : kd a0 = 6) (h : wX6_read kd ln post a0 a1 M) : gMI l D cy yX6_read cX6_read 2 .int 4 99 [.ref (gad a0), .int (gI a1)] kd ln rh M post := by
  refine gMI_of (own := RX6) (by decide) rfl (Nat.le_of_ble_eq_true rfl) ?_
  intro p e s m args below meth c A H0 Q C hret
  unfold wX6_read at h
  refine q_iload_n C 1 rfl rfl dX6_read_0 ?_
  obtain ⟨r1, h⟩ := h
  refine q_if_lt (tgt := 12) C r1 (by decide) dX6_read_1 (fun b2 => ?_) (fun b2 => ?_)
  · have h := h.1 b2
    refine q_bipush C (by decide) dX6_read_12 ?_
    exact hret (-2) M _ _ dX6_read_14 (show rng (-2) by decide) h
  · have h := h.2 b2
    refine q_iload_n C 1 rfl rfl dX6_read_4 ?_
    refine q_aload_n C 0 rfl rfl dX6_read_5 ?_
    refine q_get (v := .int (gI (M a0 10 (-1)))) C fX6_167 hk0 rfl dX6_read_6 (fun g3 => ?_)
    have h := h g3
    refine q_icmp_le (tgt := 15) C r1 g3 (by decide) dX6_read_9 (fun b4 => ?_) (fun b4 => ?_)
    · have h := h.1 b4
      refine q_aload_n C 0 rfl rfl dX6_read_15 ?_
      refine q_iconst C dX6_read_16 ?_
      refine q_put (x := 0) (ty := .int) C fX6_167 hk0 (fun _ _ _ q => by cases q; rfl) (congrArg (fun z => Value.int (gI z)) gu_s) rfl rfl (show rng 0 by decide) dX6_read_17 ?_
      refine q_iload_n C 1 rfl rfl dX6_read_20 ?_
      refine q_bipush C (by decide) dX6_read_21 ?_
      refine q_icmp_ne (tgt := 33) C r1 (show rng 13 by decide) (by decide) dX6_read_23 (fun b5 => ?_) (fun b5 => ?_)
      · have h := h.1 b5
        refine q_iconst C dX6_read_33 ?_
        exact hret (-1) (gu M a0 10 (-1) 0) _ _ dX6_read_34 (show rng (-1) by decide) h
      · have h := h.2 b5
        refine q_aload_n C 0 rfl rfl dX6_read_26 ?_
        refine q_callVI (As := []) (st := []) C vX6_173 kX6_keyOfText ⟨Nat.le_refl _, Nat.le_refl _⟩ ⟨by decide, by decide⟩ rfl hk0 ⟨_, _, rfl⟩ (by decide) rfl (Nat.le_of_ble_eq_true rfl) (mX6_keyOfText l D cy kd ln rh _ a0 (gu M a0 10 (-1) 0) hk0 h) dX6_read_27 (fun c7 M6 g8 h => ?_)
        have h := h g8
        refine q_goto (tgt := 34) C (by decide) dX6_read_30 ?_
        exact hret c7 M6 _ _ dX6_read_34 g8 h
    · have h := h.2 b4
      refine q_bipush C (by decide) dX6_read_12 ?_
      exact hret (-2) M _ _ dX6_read_14 (show rng (-2) by decide) h
set_option maxHeartbeats 4000000 in
set_option maxRecDepth 100000 in
theorem mX6_showSquare (l : Launch) (D : va_G) (cy : Nat → ClassId) (kd : gKd) (ln : gLn) (rh : gRh) (post : gM → Prop) (a0 : Int) (a1 : Int) (a2 : Int) (a3 : Int) (M : gM) (hk0 : kd a0 = 6) (h : wX6_showSquare kd ln post a0 a1 a2 a3 M) : gMV l D cy yX6_showSquare cX6_showSquare 4 0 0 [.ref (gad a0), .int (gI a1), .int (gI a2), .int (gI a3)] kd ln rh M post := by
  refine gMV_of (own := RX6) (by decide) rfl (Nat.le_of_ble_eq_true rfl) ?_
  intro p e s m args below meth c A H0 Q C hret
  unfold wX6_showSquare at h
  refine q_aload_n C 0 rfl rfl dX6_showSquare_0 ?_
  obtain ⟨r1, h⟩ := h
  refine q_get (v := .ref (rh a0 11)) C fX6_46 hk0 (if_neg (Int.not_lt.mpr r1)) dX6_showSquare_1 (fun g2 => ?_)
  refine q_iload_n C 1 rfl rfl dX6_showSquare_4 ?_
  refine q_iload_n C 2 rfl rfl dX6_showSquare_5 ?_
  obtain ⟨r3, h⟩ := h
  obtain ⟨r4, h⟩ := h
  refine q_iast C hk0 rfl r4 r3 dX6_showSquare_6 ?_
  refine q_aload_n C 0 rfl rfl dX6_showSquare_7 ?_
  refine q_get (v := .ref (rh a0 11)) C fX6_46 hk0 (if_neg (Int.not_lt.mpr r1)) dX6_showSquare_8 (fun g5 => ?_)
  refine q_iload_n C 1 rfl rfl dX6_showSquare_11 ?_
  refine q_iconst C dX6_showSquare_12 ?_
  refine q_iadd C dX6_showSquare_13 ?_
  refine q_bipush C (by decide) dX6_showSquare_14 ?_
  refine q_aload_n C 0 rfl rfl dX6_showSquare_16 ?_
  refine q_get (v := gR ((gu M a0 11 a1 a2) a0 1 (-1))) C fX6_52 hk0 rfl dX6_showSquare_17 (fun g6 => ?_)
  obtain ⟨r7, h⟩ := h
  refine q_nn r7 (by decide) ?_
  obtain ⟨r8, h⟩ := h
  refine q_get (v := .ref (rh ((gu M a0 11 a1 a2) a0 1 (-1)) 3)) C fX6_254 r7 (if_neg (Int.not_lt.mpr r8)) dX6_showSquare_20 (fun g9 => ?_)
  refine q_iload_n C 3 rfl rfl dX6_showSquare_23 ?_
  obtain ⟨r10, h⟩ := h
  refine q_iald C r7 rfl (fun _ q => q) r10 dX6_showSquare_24 (fun g11 => ?_)
  have h := h g11
  refine q_iadd C dX6_showSquare_25 ?_
  obtain ⟨r12, h⟩ := h
  obtain ⟨r13, h⟩ := h
  refine q_iast C hk0 rfl r13 r12 dX6_showSquare_26 ?_
  refine q_aload_n C 0 rfl rfl dX6_showSquare_27 ?_
  refine q_get (v := .ref (rh a0 11)) C fX6_46 hk0 (if_neg (Int.not_lt.mpr r1)) dX6_showSquare_28 (fun g14 => ?_)
  refine q_iload_n C 1 rfl rfl dX6_showSquare_31 ?_
  refine q_iconst C dX6_showSquare_32 ?_
  refine q_iadd C dX6_showSquare_33 ?_
  refine q_bipush C (by decide) dX6_showSquare_34 ?_
  refine q_aload_n C 0 rfl rfl dX6_showSquare_36 ?_
  refine q_get (v := gR ((gu (gu M a0 11 a1 a2) a0 11 (a1 + 1) (97 + ((gu M a0 11 a1 a2) ((gu M a0 11 a1 a2) a0 1 (-1)) 3 a3))) a0 1 (-1))) C fX6_52 hk0 rfl dX6_showSquare_37 (fun g15 => ?_)
  obtain ⟨r16, h⟩ := h
  refine q_nn r16 (by decide) ?_
  obtain ⟨r17, h⟩ := h
  refine q_get (v := .ref (rh ((gu (gu M a0 11 a1 a2) a0 11 (a1 + 1) (97 + ((gu M a0 11 a1 a2) ((gu M a0 11 a1 a2) a0 1 (-1)) 3 a3))) a0 1 (-1)) 2)) C fX6_257 r16 (if_neg (Int.not_lt.mpr r17)) dX6_showSquare_40 (fun g18 => ?_)
  refine q_iload_n C 3 rfl rfl dX6_showSquare_43 ?_
  obtain ⟨r19, h⟩ := h
  refine q_iald C r16 rfl (fun _ q => q) r19 dX6_showSquare_44 (fun g20 => ?_)
  have h := h g20
  refine q_iadd C dX6_showSquare_45 ?_
  obtain ⟨r21, h⟩ := h
  obtain ⟨r22, h⟩ := h
  refine q_iast C hk0 rfl r22 r21 dX6_showSquare_46 ?_
  refine q_aload_n C 0 rfl rfl dX6_showSquare_47 ?_
  refine q_get (v := .ref (rh a0 11)) C fX6_46 hk0 (if_neg (Int.not_lt.mpr r1)) dX6_showSquare_48 (fun g23 => ?_)
  refine q_iload_n C 1 rfl rfl dX6_showSquare_51 ?_
  refine q_iconst C dX6_showSquare_52 ?_
  refine q_iadd C dX6_showSquare_53 ?_
  refine q_bipush C (by decide) dX6_showSquare_54 ?_
  obtain ⟨r24, h⟩ := h
  refine q_iast C hk0 rfl (show rng 32 by decide) r24 dX6_showSquare_56 ?_
  exact hret (gu (gu (gu (gu M a0 11 a1 a2) a0 11 (a1 + 1) (97 + ((gu M a0 11 a1 a2) ((gu M a0 11 a1 a2) a0 1 (-1)) 3 a3))) a0 11 (a1 + 2) (49 + ((gu (gu M a0 11 a1 a2) a0 11 (a1 + 1) (97 + ((gu M a0 11 a1 a2) ((gu M a0 11 a1 a2) a0 1 (-1)) 3 a3))) ((gu (gu M a0 11 a1 a2) a0 11 (a1 + 1) (97 + ((gu M a0 11 a1 a2) ((gu M a0 11 a1 a2) a0 1 (-1)) 3 a3))) a0 1 (-1)) 2 a3))) a0 11 (a1 + 3) 32) _ _ dX6_showSquare_57 h
set_option maxHeartbeats 4000000 in
set_option maxRecDepth 100000 in
theorem mX6_show (l : Launch) (D : va_G) (cy : Nat → ClassId) (kd : gKd) (ln : gLn) (rh : gRh) (post : Int → gM → Prop) (a0 : Int) (a1 : Int) (a2 : Int) (a3 : Int) (a4 : Int) (a5 : Int) (M : gM) (hk0 : kd a0 = 6) (h : wX6_show kd ln post a0 a1 a2 a3 a4 a5 M) : gMI l D cy yX6_show cX6_show 6 .int 3 72 [.ref (gad a0), .int (gI a1), .int (gI a2), .int (gI a3), .int (gI a4), .int (gI a5)] kd ln rh M post := by
  refine gMI_of (own := RX6) (by decide) rfl (Nat.le_of_ble_eq_true rfl) ?_
  intro p e s m args below meth c A H0 Q C hret
  unfold wX6_show at h
  refine q_aload_n C 0 rfl rfl dX6_show_0 ?_
  refine q_get (v := gR (M a0 1 (-1))) C fX6_52 hk0 rfl dX6_show_1 (fun g1 => ?_)
  obtain ⟨r2, h⟩ := h
  refine q_nn r2 (by decide) ?_
  refine q_iload_n C 1 rfl rfl dX6_show_4 ?_
  refine q_iload_n C 2 rfl rfl dX6_show_5 ?_
  refine q_iload_n C 3 rfl rfl dX6_show_6 ?_
  refine q_iload C 4 rfl dX6_show_7 ?_
  refine q_iload C 5 rfl dX6_show_9 ?_
  refine q_callVI (As := [.int (gI a1), .int (gI a2), .int (gI a3), .int (gI a4), .int (gI a5)]) (st := []) C vX6_70 kX0_allows ⟨Nat.le_refl _, Nat.le_refl _⟩ ⟨by decide, by decide⟩ rfl r2 ⟨_, _, rfl⟩ (by decide) rfl (Nat.le_of_ble_eq_true rfl) (mX0_allows l D cy kd ln rh _ (M a0 1 (-1)) a1 a2 a3 a4 a5 M r2 h) dX6_show_11 (fun c4 M3 g5 h => ?_)
  have h := h g5
  refine q_if_ne (tgt := 19) C g5 (by decide) dX6_show_14 (fun b6 => ?_) (fun b6 => ?_)
  · have h := h.1 b6
    refine q_aload_n C 0 rfl rfl dX6_show_19 ?_
    refine q_iconst C dX6_show_20 ?_
    refine q_bipush C (by decide) dX6_show_21 ?_
    refine q_iload_n C 2 rfl rfl dX6_show_23 ?_
    refine q_callVV (As := [.int (gI 0), .int (gI 75), .int (gI a2)]) (st := []) C vX6_176 kX6_showSquare ⟨Nat.le_refl _, Nat.le_refl _⟩ ⟨by decide, by decide⟩ rfl hk0 ⟨_, _, rfl⟩ (by decide) rfl (Nat.le_of_ble_eq_true rfl) (mX6_showSquare l D cy kd ln rh _ a0 0 75 a2 M3 hk0 h) dX6_show_24 (fun M7 h => ?_)
    refine q_aload_n C 0 rfl rfl dX6_show_27 ?_
    refine q_iconst C dX6_show_28 ?_
    refine q_gets (t := 0) C (Or.inl ⟨rfl, rfl⟩) zX6_180 dX6_show_29 ?_
    refine q_iload_n C 1 rfl rfl dX6_show_32 ?_
    obtain ⟨r10, h⟩ := h
    refine q_cald C (by decide) r10 dX6_show_33 (fun g11 => ?_)
    have h := h g11
    refine q_iload C 4 rfl dX6_show_34 ?_
    refine q_callVV (As := [.int (gI 4), .int (gI (gle 0 a1.toNat)), .int (gI a4)]) (st := []) C vX6_176 kX6_showSquare ⟨Nat.le_refl _, Nat.le_refl _⟩ ⟨by decide, by decide⟩ rfl hk0 ⟨_, _, rfl⟩ (by decide) rfl (Nat.le_of_ble_eq_true rfl) (mX6_showSquare l D cy kd ln rh _ a0 4 (gle 0 a1.toNat) a4 M7 hk0 h) dX6_show_36 (fun M12 h => ?_)
    refine q_aload_n C 0 rfl rfl dX6_show_39 ?_
    refine q_bipush C (by decide) dX6_show_40 ?_
    refine q_bipush C (by decide) dX6_show_42 ?_
    refine q_iload_n C 3 rfl rfl dX6_show_44 ?_
    refine q_callVV (As := [.int (gI 8), .int (gI 107), .int (gI a3)]) (st := []) C vX6_176 kX6_showSquare ⟨Nat.le_refl _, Nat.le_refl _⟩ ⟨by decide, by decide⟩ rfl hk0 ⟨_, _, rfl⟩ (by decide) rfl (Nat.le_of_ble_eq_true rfl) (mX6_showSquare l D cy kd ln rh _ a0 8 107 a3 M12 hk0 h) dX6_show_45 (fun M15 h => ?_)
    refine q_aload_n C 0 rfl rfl dX6_show_48 ?_
    obtain ⟨r18, h⟩ := h
    refine q_get (v := .ref (rh a0 11)) C fX6_46 hk0 (if_neg (Int.not_lt.mpr r18)) dX6_show_49 (fun g19 => ?_)
    refine q_bipush C (by decide) dX6_show_52 ?_
    refine q_gets (t := 1) C (Or.inr ⟨rfl, rfl⟩) zX6_184 dX6_show_54 ?_
    refine q_iload C 5 rfl dX6_show_57 ?_
    obtain ⟨r20, h⟩ := h
    refine q_cald C (by decide) r20 dX6_show_59 (fun g21 => ?_)
    have h := h g21
    obtain ⟨r22, h⟩ := h
    refine q_iast C hk0 rfl g21 r22 dX6_show_60 ?_
    refine q_aload_n C 0 rfl rfl dX6_show_61 ?_
    refine q_bipush C (by decide) dX6_show_62 ?_
    refine q_put (x := 13) (ty := .int) C fX6_187 hk0 (fun _ _ _ q => by cases q; rfl) (congrArg (fun z => Value.int (gI z)) gu_s) rfl rfl (show rng 13 by decide) dX6_show_64 ?_
    refine q_aload_n C 0 rfl rfl dX6_show_67 ?_
    refine q_get (v := .int (gI ((gu (gu M15 a0 11 12 (gle 1 a5.toNat)) a0 12 (-1) 13) a0 12 (-1)))) C fX6_187 hk0 rfl dX6_show_68 (fun g23 => ?_)
    have h := h g23
    exact hret ((gu (gu M15 a0 11 12 (gle 1 a5.toNat)) a0 12 (-1) 13) a0 12 (-1)) (gu (gu M15 a0 11 12 (gle 1 a5.toNat)) a0 12 (-1) 13) _ _ dX6_show_71 g23 h
  · have h := h.2 b6
    refine q_iconst C dX6_show_17 ?_
    exact hret (-1) M3 _ _ dX6_show_18 (show rng (-1) by decide) h
set_option maxHeartbeats 4000000 in
set_option maxRecDepth 100000 in
theorem mX7_add (l : Launch) (D : va_G) (cy : Nat → ClassId) (kd : gKd) (ln : gLn) (rh : gRh) (post : gM → Prop) (a0 : Int) (a1 : Int) (a2 : Int) (a3 : Int) (a4 : Int) (a5 : Int) (a6 : Int) (a7 : Int) (M : gM) (hk0 : kd a0 = 7) (h : wX7_add kd ln post a0 a1 a2 a3 a4 a5 a6 a7 M) : gMV l D cy yX7_add cX7_add 9 0 0 [.ref (gad a0), .int (gI a1), .int (gI a2), .int (gI a3), .int (gI a4), .int (gI a5), .int (gI a6), .int (gI a7)] kd ln rh M post := by
  refine gMV_of (own := RX7) (by decide) rfl (Nat.le_of_ble_eq_true rfl) ?_
  intro p e s m args below meth c A H0 Q C hret
  have t50 : ∀ (k6 : Int → gM → Prop), (∀ (x8 : Int), ∀ (M : gM), k6 x8 M → gW p l e (gRm 0 0) s m args below meth c D cy A H0 Q 9 kd ln rh 0 0 M 6 [(0, .ref (gad a0)), (1, .int (gI a1)), (2, .int (gI a2)), (3, .int (gI a3)), (4, .int (gI a4)), (5, .int (gI a5)), (6, .int (gI a6)), (7, .int (gI a7)), (8, .int (gI x8))] []) → ∀ (x8 : Int) (M : gM), wX7_add_50 kd ln post a0 a1 a2 a3 a4 a5 a6 a7 k6 x8 M → gW p l e (gRm 0 0) s m args below meth c D cy A H0 Q 9 kd ln rh 0 0 M 50 [(0, .ref (gad a0)), (1, .int (gI a1)), (2, .int (gI a2)), (3, .int (gI a3)), (4, .int (gI a4)), (5, .int (gI a5)), (6, .int (gI a6)), (7, .int (gI a7)), (8, .int (gI x8))] [] := by
    intro k6 hk6_ x8 M h
    unfold wX7_add_50 at h
    refine q_aload_n C 0 rfl rfl dX7_add_50 ?_
    obtain ⟨r20, h⟩ := h
    refine q_get (v := .ref (rh a0 13)) C fX7_42 hk0 (if_neg (Int.not_lt.mpr r20)) dX7_add_51 (fun g21 => ?_)
    refine q_iload C 8 rfl dX7_add_54 ?_
    refine q_aload_n C 0 rfl rfl dX7_add_56 ?_
    refine q_get (v := .ref (rh a0 13)) C fX7_42 hk0 (if_neg (Int.not_lt.mpr r20)) dX7_add_57 (fun g22 => ?_)
    refine q_iload C 8 rfl dX7_add_60 ?_
    refine q_iconst C dX7_add_62 ?_
    refine q_isub C dX7_add_63 ?_
    obtain ⟨r23, h⟩ := h
    refine q_iald C hk0 rfl (fun _ q => q) r23 dX7_add_64 (fun g24 => ?_)
    have h := h g24
    obtain ⟨r25, h⟩ := h
    refine q_iast C hk0 rfl g24 r25 dX7_add_65 ?_
    refine q_aload_n C 0 rfl rfl dX7_add_66 ?_
    obtain ⟨r26, h⟩ := h
    refine q_get (v := .ref (rh a0 14)) C fX7_45 hk0 (if_neg (Int.not_lt.mpr r26)) dX7_add_67 (fun g27 => ?_)
    refine q_iload C 8 rfl dX7_add_70 ?_
    refine q_aload_n C 0 rfl rfl dX7_add_72 ?_
    refine q_get (v := .ref (rh a0 14)) C fX7_45 hk0 (if_neg (Int.not_lt.mpr r26)) dX7_add_73 (fun g28 => ?_)
    refine q_iload C 8 rfl dX7_add_76 ?_
    refine q_iconst C dX7_add_78 ?_
    refine q_isub C dX7_add_79 ?_
    obtain ⟨r29, h⟩ := h
    refine q_iald C hk0 rfl (fun _ q => q) r29 dX7_add_80 (fun g30 => ?_)
    have h := h g30
    obtain ⟨r31, h⟩ := h
    refine q_iast C hk0 rfl g30 r31 dX7_add_81 ?_
    refine q_aload_n C 0 rfl rfl dX7_add_82 ?_
    obtain ⟨r32, h⟩ := h
    refine q_get (v := .ref (rh a0 15)) C fX7_48 hk0 (if_neg (Int.not_lt.mpr r32)) dX7_add_83 (fun g33 => ?_)
    refine q_iload C 8 rfl dX7_add_86 ?_
    refine q_aload_n C 0 rfl rfl dX7_add_88 ?_
    refine q_get (v := .ref (rh a0 15)) C fX7_48 hk0 (if_neg (Int.not_lt.mpr r32)) dX7_add_89 (fun g34 => ?_)
    refine q_iload C 8 rfl dX7_add_92 ?_
    refine q_iconst C dX7_add_94 ?_
    refine q_isub C dX7_add_95 ?_
    obtain ⟨r35, h⟩ := h
    refine q_iald C hk0 rfl (fun _ q => q) r35 dX7_add_96 (fun g36 => ?_)
    have h := h g36
    obtain ⟨r37, h⟩ := h
    refine q_iast C hk0 rfl g36 r37 dX7_add_97 ?_
    refine q_aload_n C 0 rfl rfl dX7_add_98 ?_
    obtain ⟨r38, h⟩ := h
    refine q_get (v := .ref (rh a0 16)) C fX7_51 hk0 (if_neg (Int.not_lt.mpr r38)) dX7_add_99 (fun g39 => ?_)
    refine q_iload C 8 rfl dX7_add_102 ?_
    refine q_aload_n C 0 rfl rfl dX7_add_104 ?_
    refine q_get (v := .ref (rh a0 16)) C fX7_51 hk0 (if_neg (Int.not_lt.mpr r38)) dX7_add_105 (fun g40 => ?_)
    refine q_iload C 8 rfl dX7_add_108 ?_
    refine q_iconst C dX7_add_110 ?_
    refine q_isub C dX7_add_111 ?_
    obtain ⟨r41, h⟩ := h
    refine q_iald C hk0 rfl (fun _ q => q) r41 dX7_add_112 (fun g42 => ?_)
    have h := h g42
    obtain ⟨r43, h⟩ := h
    refine q_iast C hk0 rfl g42 r43 dX7_add_113 ?_
    refine q_aload_n C 0 rfl rfl dX7_add_114 ?_
    obtain ⟨r44, h⟩ := h
    refine q_get (v := .ref (rh a0 17)) C fX7_54 hk0 (if_neg (Int.not_lt.mpr r44)) dX7_add_115 (fun g45 => ?_)
    refine q_iload C 8 rfl dX7_add_118 ?_
    refine q_aload_n C 0 rfl rfl dX7_add_120 ?_
    refine q_get (v := .ref (rh a0 17)) C fX7_54 hk0 (if_neg (Int.not_lt.mpr r44)) dX7_add_121 (fun g46 => ?_)
    refine q_iload C 8 rfl dX7_add_124 ?_
    refine q_iconst C dX7_add_126 ?_
    refine q_isub C dX7_add_127 ?_
    obtain ⟨r47, h⟩ := h
    refine q_iald C hk0 rfl (fun _ q => q) r47 dX7_add_128 (fun g48 => ?_)
    have h := h g48
    obtain ⟨r49, h⟩ := h
    refine q_iast C hk0 rfl g48 r49 dX7_add_129 ?_
    refine q_aload_n C 0 rfl rfl dX7_add_130 ?_
    obtain ⟨r50, h⟩ := h
    refine q_get (v := .ref (rh a0 18)) C fX7_57 hk0 (if_neg (Int.not_lt.mpr r50)) dX7_add_131 (fun g51 => ?_)
    refine q_iload C 8 rfl dX7_add_134 ?_
    refine q_aload_n C 0 rfl rfl dX7_add_136 ?_
    refine q_get (v := .ref (rh a0 18)) C fX7_57 hk0 (if_neg (Int.not_lt.mpr r50)) dX7_add_137 (fun g52 => ?_)
    refine q_iload C 8 rfl dX7_add_140 ?_
    refine q_iconst C dX7_add_142 ?_
    refine q_isub C dX7_add_143 ?_
    obtain ⟨r53, h⟩ := h
    refine q_iald C hk0 rfl (fun _ q => q) r53 dX7_add_144 (fun g54 => ?_)
    have h := h g54
    obtain ⟨r55, h⟩ := h
    refine q_iast C hk0 rfl g54 r55 dX7_add_145 ?_
    refine q_aload_n C 0 rfl rfl dX7_add_146 ?_
    obtain ⟨r56, h⟩ := h
    refine q_get (v := .ref (rh a0 19)) C fX7_60 hk0 (if_neg (Int.not_lt.mpr r56)) dX7_add_147 (fun g57 => ?_)
    refine q_iload C 8 rfl dX7_add_150 ?_
    refine q_aload_n C 0 rfl rfl dX7_add_152 ?_
    refine q_get (v := .ref (rh a0 19)) C fX7_60 hk0 (if_neg (Int.not_lt.mpr r56)) dX7_add_153 (fun g58 => ?_)
    refine q_iload C 8 rfl dX7_add_156 ?_
    refine q_iconst C dX7_add_158 ?_
    refine q_isub C dX7_add_159 ?_
    obtain ⟨r59, h⟩ := h
    refine q_iald C hk0 rfl (fun _ q => q) r59 dX7_add_160 (fun g60 => ?_)
    have h := h g60
    obtain ⟨r61, h⟩ := h
    refine q_iast C hk0 rfl g60 r61 dX7_add_161 ?_
    refine q_iinc (lv' := [(8, .int (gI (x8 + (-1)))), (0, .ref (gad a0)), (1, .int (gI a1)), (2, .int (gI a2)), (3, .int (gI a3)), (4, .int (gI a4)), (5, .int (gI a5)), (6, .int (gI a6)), (7, .int (gI a7))]) C 8 rfl (by decide) rfl dX7_add_162 ?_
    refine q_goto (tgt := 6) C (by decide) dX7_add_165 ?_
    refine q_lv (lv' := [(0, .ref (gad a0)), (1, .int (gI a1)), (2, .int (gI a2)), (3, .int (gI a3)), (4, .int (gI a4)), (5, .int (gI a5)), (6, .int (gI a6)), (7, .int (gI a7)), (8, .int (gI (x8 + (-1))))]) [1, 2, 3, 4, 5, 6, 7, 8, 0] rfl ?_
    exact hk6_ (x8 + (-1)) (gu (gu (gu (gu (gu (gu (gu M a0 13 x8 (M a0 13 (x8 - 1))) a0 14 x8 ((gu M a0 13 x8 (M a0 13 (x8 - 1))) a0 14 (x8 - 1))) a0 15 x8 ((gu (gu M a0 13 x8 (M a0 13 (x8 - 1))) a0 14 x8 ((gu M a0 13 x8 (M a0 13 (x8 - 1))) a0 14 (x8 - 1))) a0 15 (x8 - 1))) a0 16 x8 ((gu (gu (gu M a0 13 x8 (M a0 13 (x8 - 1))) a0 14 x8 ((gu M a0 13 x8 (M a0 13 (x8 - 1))) a0 14 (x8 - 1))) a0 15 x8 ((gu (gu M a0 13 x8 (M a0 13 (x8 - 1))) a0 14 x8 ((gu M a0 13 x8 (M a0 13 (x8 - 1))) a0 14 (x8 - 1))) a0 15 (x8 - 1))) a0 16 (x8 - 1))) a0 17 x8 ((gu (gu (gu (gu M a0 13 x8 (M a0 13 (x8 - 1))) a0 14 x8 ((gu M a0 13 x8 (M a0 13 (x8 - 1))) a0 14 (x8 - 1))) a0 15 x8 ((gu (gu M a0 13 x8 (M a0 13 (x8 - 1))) a0 14 x8 ((gu M a0 13 x8 (M a0 13 (x8 - 1))) a0 14 (x8 - 1))) a0 15 (x8 - 1))) a0 16 x8 ((gu (gu (gu M a0 13 x8 (M a0 13 (x8 - 1))) a0 14 x8 ((gu M a0 13 x8 (M a0 13 (x8 - 1))) a0 14 (x8 - 1))) a0 15 x8 ((gu (gu M a0 13 x8 (M a0 13 (x8 - 1))) a0 14 x8 ((gu M a0 13 x8 (M a0 13 (x8 - 1))) a0 14 (x8 - 1))) a0 15 (x8 - 1))) a0 16 (x8 - 1))) a0 17 (x8 - 1))) a0 18 x8 ((gu (gu (gu (gu (gu M a0 13 x8 (M a0 13 (x8 - 1))) a0 14 x8 ((gu M a0 13 x8 (M a0 13 (x8 - 1))) a0 14 (x8 - 1))) a0 15 x8 ((gu (gu M a0 13 x8 (M a0 13 (x8 - 1))) a0 14 x8 ((gu M a0 13 x8 (M a0 13 (x8 - 1))) a0 14 (x8 - 1))) a0 15 (x8 - 1))) a0 16 x8 ((gu (gu (gu M a0 13 x8 (M a0 13 (x8 - 1))) a0 14 x8 ((gu M a0 13 x8 (M a0 13 (x8 - 1))) a0 14 (x8 - 1))) a0 15 x8 ((gu (gu M a0 13 x8 (M a0 13 (x8 - 1))) a0 14 x8 ((gu M a0 13 x8 (M a0 13 (x8 - 1))) a0 14 (x8 - 1))) a0 15 (x8 - 1))) a0 16 (x8 - 1))) a0 17 x8 ((gu (gu (gu (gu M a0 13 x8 (M a0 13 (x8 - 1))) a0 14 x8 ((gu M a0 13 x8 (M a0 13 (x8 - 1))) a0 14 (x8 - 1))) a0 15 x8 ((gu (gu M a0 13 x8 (M a0 13 (x8 - 1))) a0 14 x8 ((gu M a0 13 x8 (M a0 13 (x8 - 1))) a0 14 (x8 - 1))) a0 15 (x8 - 1))) a0 16 x8 ((gu (gu (gu M a0 13 x8 (M a0 13 (x8 - 1))) a0 14 x8 ((gu M a0 13 x8 (M a0 13 (x8 - 1))) a0 14 (x8 - 1))) a0 15 x8 ((gu (gu M a0 13 x8 (M a0 13 (x8 - 1))) a0 14 x8 ((gu M a0 13 x8 (M a0 13 (x8 - 1))) a0 14 (x8 - 1))) a0 15 (x8 - 1))) a0 16 (x8 - 1))) a0 17 (x8 - 1))) a0 18 (x8 - 1))) a0 19 x8 ((gu (gu (gu (gu (gu (gu M a0 13 x8 (M a0 13 (x8 - 1))) a0 14 x8 ((gu M a0 13 x8 (M a0 13 (x8 - 1))) a0 14 (x8 - 1))) a0 15 x8 ((gu (gu M a0 13 x8 (M a0 13 (x8 - 1))) a0 14 x8 ((gu M a0 13 x8 (M a0 13 (x8 - 1))) a0 14 (x8 - 1))) a0 15 (x8 - 1))) a0 16 x8 ((gu (gu (gu M a0 13 x8 (M a0 13 (x8 - 1))) a0 14 x8 ((gu M a0 13 x8 (M a0 13 (x8 - 1))) a0 14 (x8 - 1))) a0 15 x8 ((gu (gu M a0 13 x8 (M a0 13 (x8 - 1))) a0 14 x8 ((gu M a0 13 x8 (M a0 13 (x8 - 1))) a0 14 (x8 - 1))) a0 15 (x8 - 1))) a0 16 (x8 - 1))) a0 17 x8 ((gu (gu (gu (gu M a0 13 x8 (M a0 13 (x8 - 1))) a0 14 x8 ((gu M a0 13 x8 (M a0 13 (x8 - 1))) a0 14 (x8 - 1))) a0 15 x8 ((gu (gu M a0 13 x8 (M a0 13 (x8 - 1))) a0 14 x8 ((gu M a0 13 x8 (M a0 13 (x8 - 1))) a0 14 (x8 - 1))) a0 15 (x8 - 1))) a0 16 x8 ((gu (gu (gu M a0 13 x8 (M a0 13 (x8 - 1))) a0 14 x8 ((gu M a0 13 x8 (M a0 13 (x8 - 1))) a0 14 (x8 - 1))) a0 15 x8 ((gu (gu M a0 13 x8 (M a0 13 (x8 - 1))) a0 14 x8 ((gu M a0 13 x8 (M a0 13 (x8 - 1))) a0 14 (x8 - 1))) a0 15 (x8 - 1))) a0 16 (x8 - 1))) a0 17 (x8 - 1))) a0 18 x8 ((gu (gu (gu (gu (gu M a0 13 x8 (M a0 13 (x8 - 1))) a0 14 x8 ((gu M a0 13 x8 (M a0 13 (x8 - 1))) a0 14 (x8 - 1))) a0 15 x8 ((gu (gu M a0 13 x8 (M a0 13 (x8 - 1))) a0 14 x8 ((gu M a0 13 x8 (M a0 13 (x8 - 1))) a0 14 (x8 - 1))) a0 15 (x8 - 1))) a0 16 x8 ((gu (gu (gu M a0 13 x8 (M a0 13 (x8 - 1))) a0 14 x8 ((gu M a0 13 x8 (M a0 13 (x8 - 1))) a0 14 (x8 - 1))) a0 15 x8 ((gu (gu M a0 13 x8 (M a0 13 (x8 - 1))) a0 14 x8 ((gu M a0 13 x8 (M a0 13 (x8 - 1))) a0 14 (x8 - 1))) a0 15 (x8 - 1))) a0 16 (x8 - 1))) a0 17 x8 ((gu (gu (gu (gu M a0 13 x8 (M a0 13 (x8 - 1))) a0 14 x8 ((gu M a0 13 x8 (M a0 13 (x8 - 1))) a0 14 (x8 - 1))) a0 15 x8 ((gu (gu M a0 13 x8 (M a0 13 (x8 - 1))) a0 14 x8 ((gu M a0 13 x8 (M a0 13 (x8 - 1))) a0 14 (x8 - 1))) a0 15 (x8 - 1))) a0 16 x8 ((gu (gu (gu M a0 13 x8 (M a0 13 (x8 - 1))) a0 14 x8 ((gu M a0 13 x8 (M a0 13 (x8 - 1))) a0 14 (x8 - 1))) a0 15 x8 ((gu (gu M a0 13 x8 (M a0 13 (x8 - 1))) a0 14 x8 ((gu M a0 13 x8 (M a0 13 (x8 - 1))) a0 14 (x8 - 1))) a0 15 (x8 - 1))) a0 16 (x8 - 1))) a0 17 (x8 - 1))) a0 18 (x8 - 1))) a0 19 (x8 - 1))) h
  have t168 : ∀ (x8 : Int) (M : gM), wX7_add_168 kd ln post a0 a1 a2 a3 a4 a5 a6 a7 x8 M → gW p l e (gRm 0 0) s m args below meth c D cy A H0 Q 9 kd ln rh 0 0 M 168 [(0, .ref (gad a0)), (1, .int (gI a1)), (2, .int (gI a2)), (3, .int (gI a3)), (4, .int (gI a4)), (5, .int (gI a5)), (6, .int (gI a6)), (7, .int (gI a7)), (8, .int (gI x8))] [] := by
    intro  x8 M h
    unfold wX7_add_168 at h
    refine q_aload_n C 0 rfl rfl dX7_add_168 ?_
    obtain ⟨r62, h⟩ := h
    refine q_get (v := .ref (rh a0 13)) C fX7_42 hk0 (if_neg (Int.not_lt.mpr r62)) dX7_add_169 (fun g63 => ?_)
    refine q_iload C 8 rfl dX7_add_172 ?_
    refine q_iload_n C 1 rfl rfl dX7_add_174 ?_
    obtain ⟨r64, h⟩ := h
    obtain ⟨r65, h⟩ := h
    refine q_iast C hk0 rfl r65 r64 dX7_add_175 ?_
    refine q_aload_n C 0 rfl rfl dX7_add_176 ?_
    obtain ⟨r66, h⟩ := h
    refine q_get (v := .ref (rh a0 14)) C fX7_45 hk0 (if_neg (Int.not_lt.mpr r66)) dX7_add_177 (fun g67 => ?_)
    refine q_iload C 8 rfl dX7_add_180 ?_
    refine q_iload_n C 2 rfl rfl dX7_add_182 ?_
    obtain ⟨r68, h⟩ := h
    obtain ⟨r69, h⟩ := h
    refine q_iast C hk0 rfl r69 r68 dX7_add_183 ?_
    refine q_aload_n C 0 rfl rfl dX7_add_184 ?_
    obtain ⟨r70, h⟩ := h
    refine q_get (v := .ref (rh a0 15)) C fX7_48 hk0 (if_neg (Int.not_lt.mpr r70)) dX7_add_185 (fun g71 => ?_)
    refine q_iload C 8 rfl dX7_add_188 ?_
    refine q_iload_n C 3 rfl rfl dX7_add_190 ?_
    obtain ⟨r72, h⟩ := h
    obtain ⟨r73, h⟩ := h
    refine q_iast C hk0 rfl r73 r72 dX7_add_191 ?_
    refine q_aload_n C 0 rfl rfl dX7_add_192 ?_
    obtain ⟨r74, h⟩ := h
    refine q_get (v := .ref (rh a0 16)) C fX7_51 hk0 (if_neg (Int.not_lt.mpr r74)) dX7_add_193 (fun g75 => ?_)
    refine q_iload C 8 rfl dX7_add_196 ?_
    refine q_iload C 4 rfl dX7_add_198 ?_
    obtain ⟨r76, h⟩ := h
    obtain ⟨r77, h⟩ := h
    refine q_iast C hk0 rfl r77 r76 dX7_add_200 ?_
    refine q_aload_n C 0 rfl rfl dX7_add_201 ?_
    obtain ⟨r78, h⟩ := h
    refine q_get (v := .ref (rh a0 17)) C fX7_54 hk0 (if_neg (Int.not_lt.mpr r78)) dX7_add_202 (fun g79 => ?_)
    refine q_iload C 8 rfl dX7_add_205 ?_
    refine q_iload C 5 rfl dX7_add_207 ?_
    obtain ⟨r80, h⟩ := h
    obtain ⟨r81, h⟩ := h
    refine q_iast C hk0 rfl r81 r80 dX7_add_209 ?_
    refine q_aload_n C 0 rfl rfl dX7_add_210 ?_
    obtain ⟨r82, h⟩ := h
    refine q_get (v := .ref (rh a0 18)) C fX7_57 hk0 (if_neg (Int.not_lt.mpr r82)) dX7_add_211 (fun g83 => ?_)
    refine q_iload C 8 rfl dX7_add_214 ?_
    refine q_iload C 6 rfl dX7_add_216 ?_
    obtain ⟨r84, h⟩ := h
    obtain ⟨r85, h⟩ := h
    refine q_iast C hk0 rfl r85 r84 dX7_add_218 ?_
    refine q_aload_n C 0 rfl rfl dX7_add_219 ?_
    obtain ⟨r86, h⟩ := h
    refine q_get (v := .ref (rh a0 19)) C fX7_60 hk0 (if_neg (Int.not_lt.mpr r86)) dX7_add_220 (fun g87 => ?_)
    refine q_iload C 8 rfl dX7_add_223 ?_
    refine q_iload C 7 rfl dX7_add_225 ?_
    obtain ⟨r88, h⟩ := h
    obtain ⟨r89, h⟩ := h
    refine q_iast C hk0 rfl r89 r88 dX7_add_227 ?_
    refine q_aload_n C 0 rfl rfl dX7_add_228 ?_
    refine q_dup C rfl dX7_add_229 ?_
    refine q_get (v := .int (gI ((gu (gu (gu (gu (gu (gu (gu M a0 13 x8 a1) a0 14 x8 a2) a0 15 x8 a3) a0 16 x8 a4) a0 17 x8 a5) a0 18 x8 a6) a0 19 x8 a7) a0 12 (-1)))) C fX7_104 hk0 rfl dX7_add_230 (fun g90 => ?_)
    have h := h g90
    refine q_iconst C dX7_add_233 ?_
    refine q_iadd C dX7_add_234 ?_
    obtain ⟨r91, h⟩ := h
    refine q_put (x := (((gu (gu (gu (gu (gu (gu (gu M a0 13 x8 a1) a0 14 x8 a2) a0 15 x8 a3) a0 16 x8 a4) a0 17 x8 a5) a0 18 x8 a6) a0 19 x8 a7) a0 12 (-1)) + 1)) (ty := .int) C fX7_104 hk0 (fun _ _ _ q => by cases q; rfl) (congrArg (fun z => Value.int (gI z)) gu_s) rfl rfl r91 dX7_add_235 ?_
    exact hret (gu (gu (gu (gu (gu (gu (gu (gu M a0 13 x8 a1) a0 14 x8 a2) a0 15 x8 a3) a0 16 x8 a4) a0 17 x8 a5) a0 18 x8 a6) a0 19 x8 a7) a0 12 (-1) (((gu (gu (gu (gu (gu (gu (gu M a0 13 x8 a1) a0 14 x8 a2) a0 15 x8 a3) a0 16 x8 a4) a0 17 x8 a5) a0 18 x8 a6) a0 19 x8 a7) a0 12 (-1)) + 1)) _ _ dX7_add_238 h
  have t6 : ∀ (n : Nat) (x8 : Int) (M : gM), wX7_add_6 kd ln post a0 a1 a2 a3 a4 a5 a6 a7 n x8 M → gW p l e (gRm 0 0) s m args below meth c D cy A H0 Q 9 kd ln rh 0 0 M 6 [(0, .ref (gad a0)), (1, .int (gI a1)), (2, .int (gI a2)), (3, .int (gI a3)), (4, .int (gI a4)), (5, .int (gI a5)), (6, .int (gI a6)), (7, .int (gI a7)), (8, .int (gI x8))] [] := by
    intro n
    induction n with
    | zero => intro x8 M h; exact absurd h (by simp [wX7_add_6])
    | succ n ih =>
      intro x8 M h
      have hk6_ := ih
      rw [wX7_add_6] at h
      refine q_iload C 8 rfl dX7_add_6 ?_
      obtain ⟨r3, h⟩ := h
      refine q_if_le (tgt := 168) C r3 (by decide) dX7_add_8 (fun b4 => ?_) (fun b4 => ?_)
      · have h := h.1 b4
        exact t168  x8 M h
      · have h := h.2 b4
        refine q_aload_n C 0 rfl rfl dX7_add_11 ?_
        obtain ⟨r5, h⟩ := h
        refine q_get (v := .ref (rh a0 13)) C fX7_42 hk0 (if_neg (Int.not_lt.mpr r5)) dX7_add_12 (fun g6 => ?_)
        refine q_iload C 8 rfl dX7_add_15 ?_
        refine q_iconst C dX7_add_17 ?_
        refine q_isub C dX7_add_18 ?_
        obtain ⟨r7, h⟩ := h
        refine q_iald C hk0 rfl (fun _ q => q) r7 dX7_add_19 (fun g8 => ?_)
        have h := h g8
        refine q_iload_n C 1 rfl rfl dX7_add_20 ?_
        obtain ⟨r9, h⟩ := h
        refine q_icmp_gt (tgt := 50) C g8 r9 (by decide) dX7_add_21 (fun b10 => ?_) (fun b10 => ?_)
        · have h := h.1 b10
          exact t50 (wX7_add_6 kd ln post a0 a1 a2 a3 a4 a5 a6 a7 n) hk6_ x8 M h
        · have h := h.2 b10
          refine q_aload_n C 0 rfl rfl dX7_add_24 ?_
          refine q_get (v := .ref (rh a0 13)) C fX7_42 hk0 (if_neg (Int.not_lt.mpr r5)) dX7_add_25 (fun g11 => ?_)
          refine q_iload C 8 rfl dX7_add_28 ?_
          refine q_iconst C dX7_add_30 ?_
          refine q_isub C dX7_add_31 ?_
          refine q_iald C hk0 rfl (fun _ q => q) r7 dX7_add_32 (fun g12 => ?_)
          refine q_iload_n C 1 rfl rfl dX7_add_33 ?_
          refine q_icmp_ne (tgt := 168) C g8 r9 (by decide) dX7_add_34 (fun b13 => ?_) (fun b13 => ?_)
          · have h := h.1 b13
            exact t168  x8 M h
          · have h := h.2 b13
            refine q_aload_n C 0 rfl rfl dX7_add_37 ?_
            obtain ⟨r14, h⟩ := h
            refine q_get (v := .ref (rh a0 14)) C fX7_45 hk0 (if_neg (Int.not_lt.mpr r14)) dX7_add_38 (fun g15 => ?_)
            refine q_iload C 8 rfl dX7_add_41 ?_
            refine q_iconst C dX7_add_43 ?_
            refine q_isub C dX7_add_44 ?_
            obtain ⟨r16, h⟩ := h
            refine q_iald C hk0 rfl (fun _ q => q) r16 dX7_add_45 (fun g17 => ?_)
            have h := h g17
            refine q_iload_n C 2 rfl rfl dX7_add_46 ?_
            obtain ⟨r18, h⟩ := h
            refine q_icmp_le (tgt := 168) C g17 r18 (by decide) dX7_add_47 (fun b19 => ?_) (fun b19 => ?_)
            · have h := h.1 b19
              exact t168  x8 M h
            · have h := h.2 b19
              exact t50 (wX7_add_6 kd ln post a0 a1 a2 a3 a4 a5 a6 a7 n) hk6_ x8 M h
  unfold wX7_add at h
  refine q_aload_n C 0 rfl rfl dX7_add_0 ?_
  refine q_get (v := .int (gI (M a0 12 (-1)))) C fX7_104 hk0 rfl dX7_add_1 (fun g1 => ?_)
  have h := h g1
  refine q_topi (fun v2 ev2 => ?_)
  have h := h v2 ev2
  have gv2 : rng v2 := by rw [ev2]; exact g1
  refine q_istore (lv' := [(8, .int (gI v2)), (0, .ref (gad a0)), (1, .int (gI a1)), (2, .int (gI a2)), (3, .int (gI a3)), (4, .int (gI a4)), (5, .int (gI a5)), (6, .int (gI a6)), (7, .int (gI a7))]) C (by decide) rfl dX7_add_4 ?_
  refine q_lv (lv' := [(0, .ref (gad a0)), (1, .int (gI a1)), (2, .int (gI a2)), (3, .int (gI a3)), (4, .int (gI a4)), (5, .int (gI a5)), (6, .int (gI a6)), (7, .int (gI a7)), (8, .int (gI v2))]) [1, 2, 3, 4, 5, 6, 7, 8, 0] rfl ?_
  obtain ⟨j6, h⟩ := h
  exact t6  j6 v2 M h
set_option maxHeartbeats 4000000 in
set_option maxRecDepth 100000 in
theorem mX7_key (l : Launch) (D : va_G) (cy : Nat → ClassId) (kd : gKd) (ln : gLn) (rh : gRh) (post : Int → gM → Prop) (a0 : Int) (a1 : Int) (a2 : Int) (a3 : Int) (a4 : Int) (M : gM) (hk0 : kd a0 = 7) (h : wX7_key kd ln post a0 a1 a2 a3 a4 M) : gMI l D cy yX7_key cX7_key 5 .int 0 0 [.ref (gad a0), .int (gI a1), .int (gI a2), .int (gI a3), .int (gI a4)] kd ln rh M post := by
  refine gMI_of (own := RX7) (by decide) rfl (Nat.le_of_ble_eq_true rfl) ?_
  intro p e s m args below meth c A H0 Q C hret
  unfold wX7_key at h
  refine q_iconst C dX7_key_0 ?_
  refine q_iload_n C 1 rfl rfl dX7_key_1 ?_
  refine q_aload_n C 0 rfl rfl dX7_key_2 ?_
  refine q_get (v := .int (gI (M a0 2 (-1)))) C fX7_13 hk0 rfl dX7_key_3 (fun g1 => ?_)
  have h := h g1
  refine q_imul C dX7_key_6 ?_
  refine q_iload_n C 2 rfl rfl dX7_key_7 ?_
  refine q_iadd C dX7_key_8 ?_
  refine q_aload_n C 0 rfl rfl dX7_key_9 ?_
  refine q_get (v := .int (gI (M a0 2 (-1)))) C fX7_13 hk0 rfl dX7_key_10 (fun g2 => ?_)
  refine q_imul C dX7_key_13 ?_
  refine q_iload_n C 3 rfl rfl dX7_key_14 ?_
  refine q_iadd C dX7_key_15 ?_
  refine q_imul C dX7_key_16 ?_
  refine q_iload C 4 rfl dX7_key_17 ?_
  refine q_iadd C dX7_key_19 ?_
  obtain ⟨r3, h⟩ := h
  exact hret ((2 * ((((a1 * (M a0 2 (-1))) + a2) * (M a0 2 (-1))) + a3)) + a4) M _ _ dX7_key_20 r3 h
set_option maxHeartbeats 4000000 in
set_option maxRecDepth 100000 in
theorem mX7_distanceOf (l : Launch) (D : va_G) (cy : Nat → ClassId) (kd : gKd) (ln : gLn) (rh : gRh) (post : Int → gM → Prop) (a0 : Int) (a1 : Int) (a2 : Int) (a3 : Int) (a4 : Int) (a5 : Int) (M : gM) (hk0 : kd a0 = 7) (h : wX7_distanceOf kd ln post a0 a1 a2 a3 a4 a5 M) : gMI l D cy yX7_distanceOf cX7_distanceOf 6 .int 1 24 [.ref (gad a0), .int (gI a1), .int (gI a2), .int (gI a3), .int (gI a4), .int (gI a5)] kd ln rh M post := by
  refine gMI_of (own := RX7) (by decide) rfl (Nat.le_of_ble_eq_true rfl) ?_
  intro p e s m args below meth c A H0 Q C hret
  unfold wX7_distanceOf at h
  refine q_iload_n C 1 rfl rfl dX7_distanceOf_0 ?_
  refine q_iconst C dX7_distanceOf_1 ?_
  obtain ⟨r1, h⟩ := h
  refine q_icmp_ne (tgt := 9) C r1 (show rng (-1) by decide) (by decide) dX7_distanceOf_2 (fun b2 => ?_) (fun b2 => ?_)
  · have h := h.1 b2
    refine q_aload_n C 0 rfl rfl dX7_distanceOf_9 ?_
    obtain ⟨r3, h⟩ := h
    refine q_get (v := .ref (rh a0 4)) C fX7_21 hk0 (if_neg (Int.not_lt.mpr r3)) dX7_distanceOf_10 (fun g4 => ?_)
    refine q_ldc (n := 524288) C nX7_118 (by decide) dX7_distanceOf_13 ?_
    refine q_iload_n C 1 rfl rfl dX7_distanceOf_15 ?_
    refine q_imul C dX7_distanceOf_16 ?_
    refine q_aload_n C 0 rfl rfl dX7_distanceOf_17 ?_
    refine q_iload_n C 2 rfl rfl dX7_distanceOf_18 ?_
    refine q_iload_n C 3 rfl rfl dX7_distanceOf_19 ?_
    refine q_iload C 4 rfl dX7_distanceOf_20 ?_
    refine q_iload C 5 rfl dX7_distanceOf_22 ?_
    refine q_callVI (As := [.int (gI a2), .int (gI a3), .int (gI a4), .int (gI a5)]) (st := [.int (gI (524288 * a1)), .ref (rh a0 4)]) C vX7_119 kX7_key ⟨Nat.le_refl _, Nat.le_refl _⟩ ⟨by decide, by decide⟩ rfl hk0 ⟨_, _, rfl⟩ (by decide) rfl (Nat.le_of_ble_eq_true rfl) (mX7_key l D cy kd ln rh _ a0 a2 a3 a4 a5 M hk0 h) dX7_distanceOf_24 (fun c6 M5 g7 h => ?_)
    have h := h g7
    refine q_iadd C dX7_distanceOf_27 ?_
    obtain ⟨r8, h⟩ := h
    refine q_bald C hk0 rfl (fun _ q => q) r8 dX7_distanceOf_28 (fun g9 => ?_)
    have h := h g9
    refine q_iconst C dX7_distanceOf_29 ?_
    refine q_isub C dX7_distanceOf_30 ?_
    obtain ⟨r10, h⟩ := h
    exact hret ((M5 a0 4 ((524288 * a1) + c6)) - 1) M5 _ _ dX7_distanceOf_31 r10 h
  · have h := h.2 b2
    refine q_iconst C dX7_distanceOf_5 ?_
    refine q_goto (tgt := 31) C (by decide) dX7_distanceOf_6 ?_
    exact hret (-1) M _ _ dX7_distanceOf_31 (show rng (-1) by decide) h
set_option maxHeartbeats 4000000 in
set_option maxRecDepth 100000 in
theorem mX7_after (l : Launch) (D : va_G) (cy : Nat → ClassId) (kd : gKd) (ln : gLn) (rh : gRh) (post : Int → gM → Prop) (a0 : Int) (a1 : Int) (a2 : Int) (M : gM) (hk0 : kd a0 = 7) (h : wX7_after kd ln post a0 a1 a2 M) : gMI l D cy yX7_after cX7_after 3 .int 2 49 [.ref (gad a0), .int (gI a1), .int (gI a2)] kd ln rh M post := by
  refine gMI_of (own := RX7) (by decide) rfl (Nat.le_of_ble_eq_true rfl) ?_
  intro p e s m args below meth c A H0 Q C hret
  unfold wX7_after at h
  refine q_aload_n C 0 rfl rfl dX7_after_0 ?_
  refine q_aload_n C 0 rfl rfl dX7_after_1 ?_
  obtain ⟨r1, h⟩ := h
  refine q_get (v := .ref (rh a0 16)) C fX7_51 hk0 (if_neg (Int.not_lt.mpr r1)) dX7_after_2 (fun g2 => ?_)
  refine q_iload_n C 1 rfl rfl dX7_after_5 ?_
  obtain ⟨r3, h⟩ := h
  refine q_iald C hk0 rfl (fun _ q => q) r3 dX7_after_6 (fun g4 => ?_)
  have h := h g4
  refine q_aload_n C 0 rfl rfl dX7_after_7 ?_
  obtain ⟨r5, h⟩ := h
  refine q_get (v := .ref (rh a0 17)) C fX7_54 hk0 (if_neg (Int.not_lt.mpr r5)) dX7_after_8 (fun g6 => ?_)
  refine q_iload_n C 1 rfl rfl dX7_after_11 ?_
  obtain ⟨r7, h⟩ := h
  refine q_iald C hk0 rfl (fun _ q => q) r7 dX7_after_12 (fun g8 => ?_)
  have h := h g8
  refine q_aload_n C 0 rfl rfl dX7_after_13 ?_
  obtain ⟨r9, h⟩ := h
  refine q_get (v := .ref (rh a0 18)) C fX7_57 hk0 (if_neg (Int.not_lt.mpr r9)) dX7_after_14 (fun g10 => ?_)
  refine q_iload_n C 1 rfl rfl dX7_after_17 ?_
  obtain ⟨r11, h⟩ := h
  refine q_iald C hk0 rfl (fun _ q => q) r11 dX7_after_18 (fun g12 => ?_)
  have h := h g12
  refine q_aload_n C 0 rfl rfl dX7_after_19 ?_
  obtain ⟨r13, h⟩ := h
  refine q_get (v := .ref (rh a0 19)) C fX7_60 hk0 (if_neg (Int.not_lt.mpr r13)) dX7_after_20 (fun g14 => ?_)
  refine q_iload_n C 1 rfl rfl dX7_after_23 ?_
  obtain ⟨r15, h⟩ := h
  refine q_iald C hk0 rfl (fun _ q => q) r15 dX7_after_24 (fun g16 => ?_)
  have h := h g16
  refine q_iconst C dX7_after_25 ?_
  refine q_iload_n C 2 rfl rfl dX7_after_26 ?_
  refine q_isub C dX7_after_27 ?_
  refine q_callVI (As := [.int (gI (M a0 16 a1)), .int (gI (M a0 17 a1)), .int (gI (M a0 18 a1)), .int (gI (M a0 19 a1)), .int (gI (1 - a2))]) (st := []) C vX7_123 kX7_distanceOf ⟨Nat.le_refl _, Nat.le_refl _⟩ ⟨by decide, by decide⟩ rfl hk0 ⟨_, _, rfl⟩ (by decide) rfl (Nat.le_of_ble_eq_true rfl) (mX7_distanceOf l D cy kd ln rh _ a0 (M a0 16 a1) (M a0 17 a1) (M a0 18 a1) (M a0 19 a1) (1 - a2) M hk0 h) dX7_after_28 (fun c18 M17 g19 h => ?_)
  have h := h g19
  exact hret c18 M17 _ _ dX7_after_31 g19 h
set_option maxHeartbeats 4000000 in
set_option maxRecDepth 100000 in
theorem mX7_in (l : Launch) (D : va_G) (cy : Nat → ClassId) (kd : gKd) (ln : gLn) (rh : gRh) (post : Int → gM → Prop) (a0 : Int) (a1 : Int) (a2 : Int) (M : gM)  (h : wX7_in kd ln post a0 a1 a2 M) : gMI l D cy yX7_in cX7_in 3 .boolean 0 0 [.int (gI a0), .int (gI a1), .int (gI a2)] kd ln rh M post := by
  refine gMI_ofZ (own := RX7) (by decide) rfl (Nat.le_of_ble_eq_true rfl) ?_
  intro p e s m args below meth c A H0 Q C hret
  unfold wX7_in at h
  refine q_iload_n C 0 rfl rfl dX7_in_0 ?_
  refine q_iload_n C 1 rfl rfl dX7_in_1 ?_
  obtain ⟨r1, h⟩ := h
  obtain ⟨r2, h⟩ := h
  refine q_icmp_lt (tgt := 14) C r1 r2 (by decide) dX7_in_2 (fun b3 => ?_) (fun b3 => ?_)
  · have h := h.1 b3
    refine q_iconst C dX7_in_14 ?_
    exact hret 0 M _ _ dX7_in_15 (Or.inl rfl) h
  · have h := h.2 b3
    refine q_iload_n C 0 rfl rfl dX7_in_5 ?_
    refine q_iload_n C 2 rfl rfl dX7_in_6 ?_
    obtain ⟨r4, h⟩ := h
    refine q_icmp_gt (tgt := 14) C r1 r4 (by decide) dX7_in_7 (fun b5 => ?_) (fun b5 => ?_)
    · have h := h.1 b5
      refine q_iconst C dX7_in_14 ?_
      exact hret 0 M _ _ dX7_in_15 (Or.inl rfl) h
    · have h := h.2 b5
      refine q_iconst C dX7_in_10 ?_
      refine q_goto (tgt := 15) C (by decide) dX7_in_11 ?_
      exact hret 1 M _ _ dX7_in_15 (Or.inr rfl) h
set_option maxHeartbeats 4000000 in
set_option maxRecDepth 100000 in
theorem mX7_off (l : Launch) (D : va_G) (cy : Nat → ClassId) (kd : gKd) (ln : gLn) (rh : gRh) (post : Int → gM → Prop) (a0 : Int) (a1 : Int) (a2 : Int) (a3 : Int) (M : gM) (hk0 : kd a0 = 7) (h : wX7_off kd ln post a0 a1 a2 a3 M) : gMI l D cy yX7_off cX7_off 6 .int 1 22 [.ref (gad a0), .int (gI a1), .int (gI a2), .int (gI a3)] kd ln rh M post := by
  refine gMI_of (own := RX7) (by decide) rfl (Nat.le_of_ble_eq_true rfl) ?_
  intro p e s m args below meth c A H0 Q C hret
  unfold wX7_off at h
  refine q_iload_n C 1 rfl rfl dX7_off_0 ?_
  refine q_aload_n C 0 rfl rfl dX7_off_1 ?_
  refine q_get (v := .int (gI (M a0 1 (-1)))) C fX7_7 hk0 rfl dX7_off_2 (fun g1 => ?_)
  have h := h g1
  obtain ⟨r2, h⟩ := h
  refine q_irem C r2 dX7_off_5 ?_
  refine q_iload_n C 2 rfl rfl dX7_off_6 ?_
  refine q_iadd C dX7_off_7 ?_
  refine q_topi (fun v3 ev3 => ?_)
  have h := h v3 ev3
  refine q_istore (lv' := [(4, .int (gI v3)), (0, .ref (gad a0)), (1, .int (gI a1)), (2, .int (gI a2)), (3, .int (gI a3))]) C (by decide) rfl dX7_off_8 ?_
  refine q_iload_n C 2 rfl rfl dX7_off_10 ?_
  refine q_aload_n C 1 rfl rfl dX7_off_11 ?_
  refine q_get (v := .int (gI (M a0 1 (-1)))) C fX7_7 hk0 rfl dX7_off_12 (fun g4 => ?_)
  refine q_idiv C r2 dX7_off_15 ?_
  refine q_iload_n C 4 rfl rfl dX7_off_16 ?_
  refine q_iadd C dX7_off_17 ?_
  refine q_topi (fun v5 ev5 => ?_)
  have h := h v5 ev5
  refine q_istore (lv' := [(5, .int (gI v5)), (4, .int (gI v3)), (0, .ref (gad a0)), (1, .int (gI a1)), (2, .int (gI a2)), (3, .int (gI a3))]) C (by decide) rfl dX7_off_18 ?_
  refine q_iload C 1 rfl dX7_off_20 ?_
  refine q_iconst C dX7_off_22 ?_
  refine q_aload_n C 2 rfl rfl dX7_off_23 ?_
  refine q_get (v := .int (gI (M a0 1 (-1)))) C fX7_7 hk0 rfl dX7_off_24 (fun g6 => ?_)
  refine q_iconst C dX7_off_27 ?_
  refine q_isub C dX7_off_28 ?_
  refine q_callSI (As := [.int (gI v3), .int (gI 0), .int (gI ((M a0 1 (-1)) - 1))]) (st := []) C vX7_84 kX7_in ⟨Nat.le_refl _, Nat.le_refl _⟩ ⟨by decide, by decide⟩ rfl rfl (Nat.le_of_ble_eq_true rfl) (mX7_in l D cy kd ln rh _ v3 0 ((M a0 1 (-1)) - 1) M  h) dX7_off_29 (fun c8 M7 g9 h => ?_)
  have h := h g9
  refine q_if_eq (tgt := 63) C g9 (by decide) dX7_off_32 (fun b10 => ?_) (fun b10 => ?_)
  · have h := h.1 b10
    refine q_iconst C dX7_off_63 ?_
    exact hret (-1) M7 _ _ dX7_off_64 (show rng (-1) by decide) h
  · have h := h.2 b10
    refine q_iload C 0 rfl dX7_off_35 ?_
    refine q_iconst C dX7_off_37 ?_
    refine q_aload_n C 2 rfl rfl dX7_off_38 ?_
    refine q_get (v := .int (gI (M7 a0 1 (-1)))) C fX7_7 hk0 rfl dX7_off_39 (fun g11 => ?_)
    have h := h g11
    refine q_iconst C dX7_off_42 ?_
    refine q_isub C dX7_off_43 ?_
    refine q_callSI (As := [.int (gI v5), .int (gI 0), .int (gI ((M7 a0 1 (-1)) - 1))]) (st := []) C vX7_84 kX7_in ⟨Nat.le_refl _, Nat.le_refl _⟩ ⟨by decide, by decide⟩ rfl rfl (Nat.le_of_ble_eq_true rfl) (mX7_in l D cy kd ln rh _ v5 0 ((M7 a0 1 (-1)) - 1) M7  h) dX7_off_44 (fun c13 M12 g14 h => ?_)
    have h := h g14
    refine q_if_eq (tgt := 63) C g14 (by decide) dX7_off_47 (fun b15 => ?_) (fun b15 => ?_)
    · have h := h.1 b15
      refine q_iconst C dX7_off_63 ?_
      exact hret (-1) M12 _ _ dX7_off_64 (show rng (-1) by decide) h
    · have h := h.2 b15
      refine q_aload_n C 2 rfl rfl dX7_off_50 ?_
      refine q_get (v := .int (gI (M12 a0 1 (-1)))) C fX7_7 hk0 rfl dX7_off_51 (fun g16 => ?_)
      have h := h g16
      refine q_iload C 0 rfl dX7_off_54 ?_
      refine q_imul C dX7_off_56 ?_
      refine q_iload C 1 rfl dX7_off_57 ?_
      refine q_iadd C dX7_off_59 ?_
      refine q_goto (tgt := 64) C (by decide) dX7_off_60 ?_
      obtain ⟨r17, h⟩ := h
      exact hret (((M12 a0 1 (-1)) * v5) + v3) M12 _ _ dX7_off_64 r17 h
set_option maxHeartbeats 4000000 in
set_option maxRecDepth 100000 in
theorem mX7_isNext (l : Launch) (D : va_G) (cy : Nat → ClassId) (kd : gKd) (ln : gLn) (rh : gRh) (post : Int → gM → Prop) (a0 : Int) (a1 : Int) (a2 : Int) (M : gM) (hk0 : kd a0 = 7) (h : wX7_isNext kd ln post a0 a1 a2 M) : gMI l D cy yX7_isNext cX7_isNext 5 .boolean 1 22 [.ref (gad a0), .int (gI a1), .int (gI a2)] kd ln rh M post := by
  refine gMI_ofZ (own := RX7) (by decide) rfl (Nat.le_of_ble_eq_true rfl) ?_
  intro p e s m args below meth c A H0 Q C hret
  unfold wX7_isNext at h
  refine q_iload_n C 1 rfl rfl dX7_isNext_0 ?_
  refine q_aload_n C 0 rfl rfl dX7_isNext_1 ?_
  refine q_get (v := .int (gI (M a0 1 (-1)))) C fX7_7 hk0 rfl dX7_isNext_2 (fun g1 => ?_)
  have h := h g1
  obtain ⟨r2, h⟩ := h
  refine q_irem C r2 dX7_isNext_5 ?_
  refine q_iload_n C 2 rfl rfl dX7_isNext_6 ?_
  refine q_aload_n C 0 rfl rfl dX7_isNext_7 ?_
  refine q_get (v := .int (gI (M a0 1 (-1)))) C fX7_7 hk0 rfl dX7_isNext_8 (fun g3 => ?_)
  obtain ⟨r4, h⟩ := h
  refine q_irem C r4 dX7_isNext_11 ?_
  refine q_isub C dX7_isNext_12 ?_
  refine q_topi (fun v5 ev5 => ?_)
  have h := h v5 ev5
  refine q_istore_n (lv' := [(3, .int (gI v5)), (0, .ref (gad a0)), (1, .int (gI a1)), (2, .int (gI a2))]) C rfl (by decide) rfl dX7_isNext_13 ?_
  refine q_iload_n C 2 rfl rfl dX7_isNext_14 ?_
  refine q_aload_n C 1 rfl rfl dX7_isNext_15 ?_
  refine q_get (v := .int (gI (M a0 1 (-1)))) C fX7_7 hk0 rfl dX7_isNext_16 (fun g6 => ?_)
  refine q_idiv C r2 dX7_isNext_19 ?_
  refine q_iload_n C 3 rfl rfl dX7_isNext_20 ?_
  refine q_aload_n C 1 rfl rfl dX7_isNext_21 ?_
  refine q_get (v := .int (gI (M a0 1 (-1)))) C fX7_7 hk0 rfl dX7_isNext_22 (fun g7 => ?_)
  refine q_idiv C r4 dX7_isNext_25 ?_
  refine q_isub C dX7_isNext_26 ?_
  refine q_topi (fun v8 ev8 => ?_)
  have h := h v8 ev8
  refine q_istore (lv' := [(4, .int (gI v8)), (3, .int (gI v5)), (0, .ref (gad a0)), (1, .int (gI a1)), (2, .int (gI a2))]) C (by decide) rfl dX7_isNext_27 ?_
  refine q_iload_n C 3 rfl rfl dX7_isNext_29 ?_
  refine q_iload_n C 4 rfl rfl dX7_isNext_30 ?_
  obtain ⟨r9, h⟩ := h
  obtain ⟨r10, h⟩ := h
  refine q_icmp_eq (tgt := 57) C r9 r10 (by decide) dX7_isNext_31 (fun b11 => ?_) (fun b11 => ?_)
  · have h := h.1 b11
    refine q_iconst C dX7_isNext_57 ?_
    exact hret 0 M _ _ dX7_isNext_58 (Or.inl rfl) h
  · have h := h.2 b11
    refine q_iload_n C 1 rfl rfl dX7_isNext_34 ?_
    refine q_iconst C dX7_isNext_35 ?_
    refine q_iconst C dX7_isNext_36 ?_
    refine q_callSI (As := [.int (gI v5), .int (gI (-1)), .int (gI 1)]) (st := []) C vX7_84 kX7_in ⟨Nat.le_refl _, Nat.le_refl _⟩ ⟨by decide, by decide⟩ rfl rfl (Nat.le_of_ble_eq_true rfl) (mX7_in l D cy kd ln rh _ v5 (-1) 1 M  h) dX7_isNext_37 (fun c13 M12 g14 h => ?_)
    have h := h g14
    refine q_if_eq (tgt := 57) C g14 (by decide) dX7_isNext_40 (fun b15 => ?_) (fun b15 => ?_)
    · have h := h.1 b15
      refine q_iconst C dX7_isNext_57 ?_
      exact hret 0 M12 _ _ dX7_isNext_58 (Or.inl rfl) h
    · have h := h.2 b15
      refine q_iload C 0 rfl dX7_isNext_43 ?_
      refine q_iconst C dX7_isNext_45 ?_
      refine q_iconst C dX7_isNext_46 ?_
      refine q_callSI (As := [.int (gI v8), .int (gI (-1)), .int (gI 1)]) (st := []) C vX7_84 kX7_in ⟨Nat.le_refl _, Nat.le_refl _⟩ ⟨by decide, by decide⟩ rfl rfl (Nat.le_of_ble_eq_true rfl) (mX7_in l D cy kd ln rh _ v8 (-1) 1 M12  h) dX7_isNext_47 (fun c17 M16 g18 h => ?_)
      have h := h g18
      refine q_if_eq (tgt := 57) C g18 (by decide) dX7_isNext_50 (fun b19 => ?_) (fun b19 => ?_)
      · have h := h.1 b19
        refine q_iconst C dX7_isNext_57 ?_
        exact hret 0 M16 _ _ dX7_isNext_58 (Or.inl rfl) h
      · have h := h.2 b19
        refine q_iconst C dX7_isNext_53 ?_
        refine q_goto (tgt := 58) C (by decide) dX7_isNext_54 ?_
        exact hret 1 M16 _ _ dX7_isNext_58 (Or.inr rfl) h
set_option maxHeartbeats 4000000 in
set_option maxRecDepth 100000 in
theorem mX7_sign (l : Launch) (D : va_G) (cy : Nat → ClassId) (kd : gKd) (ln : gLn) (rh : gRh) (post : Int → gM → Prop) (a0 : Int) (M : gM)  (h : wX7_sign kd ln post a0 M) : gMI l D cy yX7_sign cX7_sign 1 .int 0 0 [.int (gI a0)] kd ln rh M post := by
  refine gMI_of (own := RX7) (by decide) rfl (Nat.le_of_ble_eq_true rfl) ?_
  intro p e s m args below meth c A H0 Q C hret
  unfold wX7_sign at h
  refine q_iload_n C 0 rfl rfl dX7_sign_0 ?_
  obtain ⟨r1, h⟩ := h
  refine q_if_le (tgt := 8) C r1 (by decide) dX7_sign_1 (fun b2 => ?_) (fun b2 => ?_)
  · have h := h.1 b2
    refine q_iload_n C 0 rfl rfl dX7_sign_8 ?_
    refine q_if_ge (tgt := 16) C r1 (by decide) dX7_sign_9 (fun b3 => ?_) (fun b3 => ?_)
    · have h := h.1 b3
      refine q_iconst C dX7_sign_16 ?_
      exact hret 0 M _ _ dX7_sign_17 (show rng 0 by decide) h
    · have h := h.2 b3
      refine q_iconst C dX7_sign_12 ?_
      refine q_goto (tgt := 17) C (by decide) dX7_sign_13 ?_
      exact hret (-1) M _ _ dX7_sign_17 (show rng (-1) by decide) h
  · have h := h.2 b2
    refine q_iconst C dX7_sign_4 ?_
    refine q_goto (tgt := 17) C (by decide) dX7_sign_5 ?_
    exact hret 1 M _ _ dX7_sign_17 (show rng 1 by decide) h
