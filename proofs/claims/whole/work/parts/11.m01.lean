set_option maxHeartbeats 4000000 in
set_option maxRecDepth 100000 in
theorem mX2_enter (l : Launch) (D : va_G) (cy : Nat → ClassId) (kd : gKd) (ln : gLn) (rh : gRh) (post : gM → Prop) (a0 : Int) (a1 : Int) (a2 : Int) (a3 : Int) (M : gM) (hk0 : kd a0 = 2) (h : wX2_enter kd ln post a0 a1 a2 a3 M) : gMV l D cy yX2_enter cX2_enter 8 0 0 [.ref (gad a0), .int (gI a1), .int (gI a2), .int (gI a3)] kd ln rh M post := by
  refine gMV_of (own := RX2) (by decide) rfl (Nat.le_of_ble_eq_true rfl) ?_
  intro p e s m args below meth c A H0 Q C hret
  have t90 : ∀ (k17 : Int → Int → Int → gM → Prop), (∀ (x4 : Int), ∀ (x5 : Int), ∀ (x6 : Int), ∀ (M : gM), k17 x4 x5 x6 M → gW p l e (gRm 0 0) s m args below meth c D cy A H0 Q 8 kd ln rh 0 0 M 17 [(0, .ref (gad a0)), (1, .int (gI a1)), (2, .int (gI a2)), (3, .int (gI a3)), (4, .int (gI x4)), (5, .int (gI x5)), (6, .int (gI x6))] []) → ∀ (x4 : Int) (x5 : Int) (x6 : Int) (M : gM), wX2_enter_90 kd ln post a0 a1 a2 a3 k17 x4 x5 x6 M → gW p l e (gRm 0 0) s m args below meth c D cy A H0 Q 8 kd ln rh 0 0 M 90 [(0, .ref (gad a0)), (1, .int (gI a1)), (2, .int (gI a2)), (3, .int (gI a3)), (4, .int (gI x4)), (5, .int (gI x5)), (6, .int (gI x6))] [] := by
    intro k17 hk17_ x4 x5 x6 M h
    unfold wX2_enter_90 at h
    refine q_iload C 6 rfl dX2_enter_90 ?_
    refine q_aload_n C 0 rfl rfl dX2_enter_92 ?_
    refine q_get (v := .int (gI (M a0 3 (-1)))) C fX2_15 hk0 rfl dX2_enter_93 (fun g56 => ?_)
    have h := h g56
    refine q_iadd C dX2_enter_96 ?_
    refine q_topi (fun v57 ev57 => ?_)
    have h := h v57 ev57
    refine q_istore (lv' := [(6, .int (gI v57)), (0, .ref (gad a0)), (1, .int (gI a1)), (2, .int (gI a2)), (3, .int (gI a3)), (4, .int (gI x4)), (5, .int (gI x5))]) C (by decide) rfl dX2_enter_97 ?_
    refine q_goto (tgt := 17) C (by decide) dX2_enter_99 ?_
    refine q_lv (lv' := [(0, .ref (gad a0)), (1, .int (gI a1)), (2, .int (gI a2)), (3, .int (gI a3)), (4, .int (gI x4)), (5, .int (gI x5)), (6, .int (gI v57))]) [1, 2, 3, 4, 5, 6, 0] rfl ?_
    exact hk17_ x4 x5 v57 M h
  have t70 : ∀ (k17 : Int → Int → Int → gM → Prop), (∀ (x4 : Int), ∀ (x5 : Int), ∀ (x6 : Int), ∀ (M : gM), k17 x4 x5 x6 M → gW p l e (gRm 0 0) s m args below meth c D cy A H0 Q 8 kd ln rh 0 0 M 17 [(0, .ref (gad a0)), (1, .int (gI a1)), (2, .int (gI a2)), (3, .int (gI a3)), (4, .int (gI x4)), (5, .int (gI x5)), (6, .int (gI x6))] []) → ∀ (x4 : Int) (x5 : Int) (x6 : Int) (x7 : Int) (M : gM), wX2_enter_70 kd ln post a0 a1 a2 a3 k17 x4 x5 x6 x7 M → gW p l e (gRm 0 0) s m args below meth c D cy A H0 Q 8 kd ln rh 0 0 M 70 [(0, .ref (gad a0)), (1, .int (gI a1)), (2, .int (gI a2)), (3, .int (gI a3)), (4, .int (gI x4)), (5, .int (gI x5)), (6, .int (gI x6)), (7, .int (gI x7))] [] := by
    intro k17 hk17_ x4 x5 x6 x7 M h
    unfold wX2_enter_70 at h
    refine q_iload C 7 rfl dX2_enter_70 ?_
    refine q_iload C 5 rfl dX2_enter_72 ?_
    obtain ⟨r49, h⟩ := h
    obtain ⟨r50, h⟩ := h
    refine q_icmp_gt (tgt := 90) C r49 r50 (by decide) dX2_enter_74 (fun b51 => ?_) (fun b51 => ?_)
    · have h := h.1 b51
      refine q_lv (lv' := [(0, .ref (gad a0)), (1, .int (gI a1)), (2, .int (gI a2)), (3, .int (gI a3)), (4, .int (gI x4)), (5, .int (gI x5)), (6, .int (gI x6))]) [0, 1, 2, 3, 4, 5, 6] rfl ?_
      exact t90 k17 hk17_ x4 x5 x6 M h
    · have h := h.2 b51
      refine q_aload_n C 0 rfl rfl dX2_enter_77 ?_
      obtain ⟨r52, h⟩ := h
      refine q_get (v := .ref (rh a0 7)) C fX2_29 hk0 (if_neg (Int.not_lt.mpr r52)) dX2_enter_78 (fun g53 => ?_)
      refine q_iload C 4 rfl dX2_enter_81 ?_
      refine q_iload C 6 rfl dX2_enter_83 ?_
      obtain ⟨r54, h⟩ := h
      obtain ⟨r55, h⟩ := h
      refine q_iast C hk0 rfl r55 r54 dX2_enter_85 ?_
      refine q_iload C 7 rfl dX2_enter_86 ?_
      refine q_istore (lv' := [(5, .int (gI x7)), (0, .ref (gad a0)), (1, .int (gI a1)), (2, .int (gI a2)), (3, .int (gI a3)), (4, .int (gI x4)), (6, .int (gI x6)), (7, .int (gI x7))]) C (by decide) rfl dX2_enter_88 ?_
      refine q_lv (lv' := [(0, .ref (gad a0)), (1, .int (gI a1)), (2, .int (gI a2)), (3, .int (gI a3)), (4, .int (gI x4)), (5, .int (gI x7)), (6, .int (gI x6))]) [1, 2, 3, 4, 5, 0, 6] rfl ?_
      exact t90 k17 hk17_ x4 x7 x6 (gu M a0 7 x4 x6) h
  have t17 : ∀ (n : Nat) (x4 : Int) (x5 : Int) (x6 : Int) (M : gM), wX2_enter_17 kd ln post a0 a1 a2 a3 n x4 x5 x6 M → gW p l e (gRm 0 0) s m args below meth c D cy A H0 Q 8 kd ln rh 0 0 M 17 [(0, .ref (gad a0)), (1, .int (gI a1)), (2, .int (gI a2)), (3, .int (gI a3)), (4, .int (gI x4)), (5, .int (gI x5)), (6, .int (gI x6))] [] := by
    intro n
    induction n with
    | zero => intro x4 x5 x6 M h; exact absurd h (by simp [wX2_enter_17])
    | succ n ih =>
      intro x4 x5 x6 M h
      have hk17_ := ih
      rw [wX2_enter_17] at h
      refine q_iload C 6 rfl dX2_enter_17 ?_
      refine q_iload_n C 3 rfl rfl dX2_enter_19 ?_
      refine q_aload_n C 0 rfl rfl dX2_enter_20 ?_
      refine q_get (v := .int (gI (M a0 3 (-1)))) C fX2_15 hk0 rfl dX2_enter_21 (fun g3 => ?_)
      have h := h g3
      refine q_imul C dX2_enter_24 ?_
      obtain ⟨r4, h⟩ := h
      obtain ⟨r5, h⟩ := h
      refine q_icmp_ge (tgt := 102) C r4 r5 (by decide) dX2_enter_25 (fun b6 => ?_) (fun b6 => ?_)
      · have h := h.1 b6
        refine q_iload C 5 rfl dX2_enter_102 ?_
        refine q_iload C 4 rfl dX2_enter_104 ?_
        obtain ⟨r7, h⟩ := h
        obtain ⟨r8, h⟩ := h
        refine q_icmp_ne (tgt := 153) C r7 r8 (by decide) dX2_enter_106 (fun b9 => ?_) (fun b9 => ?_)
        · have h := h.1 b9
          refine q_aload_n C 0 rfl rfl dX2_enter_153 ?_
          obtain ⟨r10, h⟩ := h
          refine q_get (v := .ref (rh a0 5)) C fX2_23 hk0 (if_neg (Int.not_lt.mpr r10)) dX2_enter_154 (fun g11 => ?_)
          refine q_iload C 4 rfl dX2_enter_157 ?_
          refine q_aload_n C 0 rfl rfl dX2_enter_159 ?_
          refine q_get (v := .ref (rh a0 5)) C fX2_23 hk0 (if_neg (Int.not_lt.mpr r10)) dX2_enter_160 (fun g12 => ?_)
          refine q_iload C 5 rfl dX2_enter_163 ?_
          obtain ⟨r13, h⟩ := h
          refine q_iald C hk0 rfl (fun _ q => q) r13 dX2_enter_165 (fun g14 => ?_)
          have h := h g14
          obtain ⟨r15, h⟩ := h
          refine q_iast C hk0 rfl g14 r15 dX2_enter_166 ?_
          exact hret (gu M a0 5 x4 (M a0 5 x5)) _ _ dX2_enter_167 h
        · have h := h.2 b9
          refine q_aload_n C 0 rfl rfl dX2_enter_109 ?_
          obtain ⟨r16, h⟩ := h
          refine q_get (v := .ref (rh a0 1)) C fX2_32 hk0 (if_neg (Int.not_lt.mpr r16)) dX2_enter_110 (fun g17 => ?_)
          refine q_aload_n C 0 rfl rfl dX2_enter_113 ?_
          refine q_get (v := .int (gI (M a0 0 (-1)))) C fX2_52 hk0 rfl dX2_enter_114 (fun g18 => ?_)
          have h := h g18
          refine q_iload_n C 1 rfl rfl dX2_enter_117 ?_
          obtain ⟨r19, h⟩ := h
          obtain ⟨r20, h⟩ := h
          refine q_iast C hk0 rfl r20 r19 dX2_enter_118 ?_
          refine q_aload_n C 0 rfl rfl dX2_enter_119 ?_
          obtain ⟨r21, h⟩ := h
          refine q_get (v := .ref (rh a0 2)) C fX2_35 hk0 (if_neg (Int.not_lt.mpr r21)) dX2_enter_120 (fun g22 => ?_)
          refine q_aload_n C 0 rfl rfl dX2_enter_123 ?_
          refine q_get (v := .int (gI ((gu M a0 1 (M a0 0 (-1)) a1) a0 0 (-1)))) C fX2_52 hk0 rfl dX2_enter_124 (fun g23 => ?_)
          have h := h g23
          refine q_iload_n C 2 rfl rfl dX2_enter_127 ?_
          obtain ⟨r24, h⟩ := h
          obtain ⟨r25, h⟩ := h
          refine q_iast C hk0 rfl r25 r24 dX2_enter_128 ?_
          refine q_aload_n C 0 rfl rfl dX2_enter_129 ?_
          obtain ⟨r26, h⟩ := h
          refine q_get (v := .ref (rh a0 5)) C fX2_23 hk0 (if_neg (Int.not_lt.mpr r26)) dX2_enter_130 (fun g27 => ?_)
          refine q_iload C 4 rfl dX2_enter_133 ?_
          refine q_aload_n C 0 rfl rfl dX2_enter_135 ?_
          refine q_get (v := .int (gI ((gu (gu M a0 1 (M a0 0 (-1)) a1) a0 2 ((gu M a0 1 (M a0 0 (-1)) a1) a0 0 (-1)) a2) a0 0 (-1)))) C fX2_52 hk0 rfl dX2_enter_136 (fun g28 => ?_)
          have h := h g28
          obtain ⟨r29, h⟩ := h
          refine q_iast C hk0 rfl g28 r29 dX2_enter_139 ?_
          refine q_aload_n C 0 rfl rfl dX2_enter_140 ?_
          refine q_dup C rfl dX2_enter_141 ?_
          refine q_get (v := .int (gI ((gu (gu (gu M a0 1 (M a0 0 (-1)) a1) a0 2 ((gu M a0 1 (M a0 0 (-1)) a1) a0 0 (-1)) a2) a0 5 x4 ((gu (gu M a0 1 (M a0 0 (-1)) a1) a0 2 ((gu M a0 1 (M a0 0 (-1)) a1) a0 0 (-1)) a2) a0 0 (-1))) a0 0 (-1)))) C fX2_52 hk0 rfl dX2_enter_142 (fun g30 => ?_)
          have h := h g30
          refine q_iconst C dX2_enter_145 ?_
          refine q_iadd C dX2_enter_146 ?_
          obtain ⟨r31, h⟩ := h
          refine q_put (x := (((gu (gu (gu M a0 1 (M a0 0 (-1)) a1) a0 2 ((gu M a0 1 (M a0 0 (-1)) a1) a0 0 (-1)) a2) a0 5 x4 ((gu (gu M a0 1 (M a0 0 (-1)) a1) a0 2 ((gu M a0 1 (M a0 0 (-1)) a1) a0 0 (-1)) a2) a0 0 (-1))) a0 0 (-1)) + 1)) (ty := .int) C fX2_52 hk0 (fun _ _ _ q => by cases q; rfl) (congrArg (fun z => Value.int (gI z)) gu_s) rfl rfl r31 (fun j q => absurd (show (0 : Nat) = j + 3 from q) (by omega)) dX2_enter_147 ?_
          refine q_goto (tgt := 167) C (by decide) dX2_enter_150 ?_
          exact hret (gu (gu (gu (gu M a0 1 (M a0 0 (-1)) a1) a0 2 ((gu M a0 1 (M a0 0 (-1)) a1) a0 0 (-1)) a2) a0 5 x4 ((gu (gu M a0 1 (M a0 0 (-1)) a1) a0 2 ((gu M a0 1 (M a0 0 (-1)) a1) a0 0 (-1)) a2) a0 0 (-1))) a0 0 (-1) (((gu (gu (gu M a0 1 (M a0 0 (-1)) a1) a0 2 ((gu M a0 1 (M a0 0 (-1)) a1) a0 0 (-1)) a2) a0 5 x4 ((gu (gu M a0 1 (M a0 0 (-1)) a1) a0 2 ((gu M a0 1 (M a0 0 (-1)) a1) a0 0 (-1)) a2) a0 0 (-1))) a0 0 (-1)) + 1)) _ _ dX2_enter_167 h
      · have h := h.2 b6
        refine q_aload_n C 0 rfl rfl dX2_enter_28 ?_
        obtain ⟨r33, h⟩ := h
        obtain ⟨r34, h⟩ := h
        obtain ⟨r35, h⟩ := h
        refine q_get (v := .ref (rh (M a0 4 (-1)) 4)) C fX2_22 hk0 (if_neg r33) dX2_enter_29 (fun g32 => ?_)
        refine q_iload C 6 rfl dX2_enter_32 ?_
        refine q_iload_n C 1 rfl rfl dX2_enter_34 ?_
        refine q_iadd C dX2_enter_35 ?_
        obtain ⟨r36, h⟩ := h
        refine q_iald C r34 rfl (fun _ q => q) r36 dX2_enter_36 (fun g37 => ?_)
        have h := h g37
        refine q_aload_n C 0 rfl rfl dX2_enter_37 ?_
        refine q_get (v := .int (gI (M a0 3 (-1)))) C fX2_15 hk0 rfl dX2_enter_38 (fun g38 => ?_)
        refine q_imul C dX2_enter_41 ?_
        refine q_aload_n C 0 rfl rfl dX2_enter_42 ?_
        refine q_get (v := .ref (rh (M a0 4 (-1)) 4)) C fX2_22 hk0 (if_neg r33) dX2_enter_43 (fun g39 => ?_)
        refine q_iload C 6 rfl dX2_enter_46 ?_
        refine q_iload_n C 2 rfl rfl dX2_enter_48 ?_
        refine q_iadd C dX2_enter_49 ?_
        obtain ⟨r40, h⟩ := h
        refine q_iald C r34 rfl (fun _ q => q) r40 dX2_enter_50 (fun g41 => ?_)
        have h := h g41
        refine q_iadd C dX2_enter_51 ?_
        refine q_topi (fun v42 ev42 => ?_)
        have h := h v42 ev42
        refine q_istore (lv' := [(7, .int (gI v42)), (0, .ref (gad a0)), (1, .int (gI a1)), (2, .int (gI a2)), (3, .int (gI a3)), (4, .int (gI x4)), (5, .int (gI x5)), (6, .int (gI x6))]) C (by decide) rfl dX2_enter_52 ?_
        refine q_iload C 0 rfl dX2_enter_54 ?_
        refine q_iload C 6 rfl dX2_enter_56 ?_
        obtain ⟨r43, h⟩ := h
        obtain ⟨r44, h⟩ := h
        refine q_icmp_ge (tgt := 70) C r43 r44 (by decide) dX2_enter_58 (fun b45 => ?_) (fun b45 => ?_)
        · have h := h.1 b45
          refine q_lv (lv' := [(0, .ref (gad a0)), (1, .int (gI a1)), (2, .int (gI a2)), (3, .int (gI a3)), (4, .int (gI x4)), (5, .int (gI x5)), (6, .int (gI x6)), (7, .int (gI v42))]) [1, 2, 3, 4, 5, 6, 7, 0] rfl ?_
          exact t70 (wX2_enter_17 kd ln post a0 a1 a2 a3 n) hk17_ x4 x5 x6 v42 M h
        · have h := h.2 b45
          refine q_aload_n C 1 rfl rfl dX2_enter_61 ?_
          obtain ⟨r46, h⟩ := h
          refine q_get (v := .ref (rh a0 6)) C fX2_26 hk0 (if_neg (Int.not_lt.mpr r46)) dX2_enter_62 (fun g47 => ?_)
          refine q_iload C 5 rfl dX2_enter_65 ?_
          refine q_iload C 7 rfl dX2_enter_67 ?_
          obtain ⟨r48, h⟩ := h
          refine q_iast C hk0 rfl r4 r48 dX2_enter_69 ?_
          refine q_lv (lv' := [(0, .ref (gad a0)), (1, .int (gI a1)), (2, .int (gI a2)), (3, .int (gI a3)), (4, .int (gI x4)), (5, .int (gI x5)), (6, .int (gI x6)), (7, .int (gI v42))]) [1, 2, 3, 4, 5, 6, 7, 0] rfl ?_
          exact t70 (wX2_enter_17 kd ln post a0 a1 a2 a3 n) hk17_ x4 x5 x6 v42 (gu M a0 6 x4 x6) h
  unfold wX2_enter at h
  refine q_iload_n C 1 rfl rfl dX2_enter_0 ?_
  refine q_aload_n C 0 rfl rfl dX2_enter_1 ?_
  refine q_get (v := .int (gI (M a0 3 (-1)))) C fX2_15 hk0 rfl dX2_enter_2 (fun g1 => ?_)
  have h := h g1
  refine q_imul C dX2_enter_5 ?_
  refine q_iload_n C 2 rfl rfl dX2_enter_6 ?_
  refine q_iadd C dX2_enter_7 ?_
  refine q_topi (fun v2 ev2 => ?_)
  have h := h v2 ev2
  refine q_istore (lv' := [(4, .int (gI v2)), (0, .ref (gad a0)), (1, .int (gI a1)), (2, .int (gI a2)), (3, .int (gI a3))]) C (by decide) rfl dX2_enter_8 ?_
  refine q_iload C 0 rfl dX2_enter_10 ?_
  refine q_istore (lv' := [(5, .int (gI v2)), (4, .int (gI v2)), (0, .ref (gad a0)), (1, .int (gI a1)), (2, .int (gI a2)), (3, .int (gI a3))]) C (by decide) rfl dX2_enter_12 ?_
  refine q_iconst C dX2_enter_14 ?_
  refine q_istore (lv' := [(6, .int (gI 0)), (5, .int (gI v2)), (4, .int (gI v2)), (0, .ref (gad a0)), (1, .int (gI a1)), (2, .int (gI a2)), (3, .int (gI a3))]) C (by decide) rfl dX2_enter_15 ?_
  refine q_lv (lv' := [(0, .ref (gad a0)), (1, .int (gI a1)), (2, .int (gI a2)), (3, .int (gI a3)), (4, .int (gI v2)), (5, .int (gI v2)), (6, .int (gI 0))]) [3, 4, 5, 6, 2, 1, 0] rfl ?_
  obtain ⟨j17, h⟩ := h
  exact t17  j17 v2 v2 0 M h
set_option maxHeartbeats 4000000 in
set_option maxRecDepth 100000 in
theorem mX2_init (l : Launch) (D : va_G) (cy : Nat → ClassId) (mc ms : Nat) (kd : gKd) (ln : gLn) (rh : gRh) (post : gKd → gLn → gM → Prop) (a0 : Int) (a1 : Int) (a2 : Int) (M : gM) (hk0 : kd a0 = 2) (hk1 : kd a1 = 0) (h : wX2_init mc ms kd ln post a0 a1 a2 M) : gXV l D cy yX2_init cX2_init 5 2 44 mc ms [.ref (gad a0), .ref (gad a1), .int (gI a2)] kd ln rh M post := by
  refine gXV_of (own := RX2) (by decide) rfl (Nat.le_of_ble_eq_true rfl) ?_
  intro p e s m args below meth c A H0 Q C hin hret
  have t149 : ∀ (k105 : gKd → gLn → Nat → Nat → Int → gM → Prop), (∀ (kd_ : gKd) (ln_ : gLn) (rh_ : gRh) (c_ s_ : Nat) (kp_ : gKp kd ln rh kd_ ln_ rh_), ∀ (x3 : Int), ∀ (M : gM), k105 kd_ ln_ c_ s_ x3 M → gW p l e (gRx 2 44 mc ms) s m args below meth c D cy A H0 Q 5 kd_ ln_ rh_ c_ s_ M 105 [(0, .ref (gad a0)), (1, .ref (gad a1)), (2, .int (gI a2)), (3, .int (gI x3))] []) → ∀ (k116 : gKd → gLn → Nat → Nat → Int → Int → gM → Prop), (∀ (kd_ : gKd) (ln_ : gLn) (rh_ : gRh) (c_ s_ : Nat) (kp_ : gKp kd ln rh kd_ ln_ rh_), ∀ (x3 : Int), ∀ (x4 : Int), ∀ (M : gM), k116 kd_ ln_ c_ s_ x3 x4 M → gW p l e (gRx 2 44 mc ms) s m args below meth c D cy A H0 Q 5 kd_ ln_ rh_ c_ s_ M 116 [(0, .ref (gad a0)), (1, .ref (gad a1)), (2, .int (gI a2)), (3, .int (gI x3)), (4, .int (gI x4))] []) → ∀ (kd_ : gKd) (ln_ : gLn) (rh_ : gRh) (c_ s_ : Nat) (kp_ : gKp kd ln rh kd_ ln_ rh_) (x3 : Int) (x4 : Int) (M : gM), wX2_init_149 mc ms post a0 a1 a2 k105 k116 kd_ ln_ c_ s_ x3 x4 M → gW p l e (gRx 2 44 mc ms) s m args below meth c D cy A H0 Q 5 kd_ ln_ rh_ c_ s_ M 149 [(0, .ref (gad a0)), (1, .ref (gad a1)), (2, .int (gI a2)), (3, .int (gI x3)), (4, .int (gI x4))] [] := by
    intro k105 hk105_ k116 hk116_ kd_ ln_ rh_ c_ s_ kp_ x3 x4 M h
    unfold wX2_init_149 at h
    obtain ⟨r77, h⟩ := h
    refine q_iinc (lv' := [(4, .int (gI (x4 + 1))), (0, .ref (gad a0)), (1, .ref (gad a1)), (2, .int (gI a2)), (3, .int (gI x3))]) C 4 rfl (by decide) rfl dX2_init_149 ?_
    refine q_goto (tgt := 116) C (by decide) dX2_init_152 ?_
    refine q_lv (lv' := [(0, .ref (gad a0)), (1, .ref (gad a1)), (2, .int (gI a2)), (3, .int (gI x3)), (4, .int (gI (x4 + 1)))]) [1, 2, 3, 4, 0] rfl ?_
    exact hk116_ kd_ ln_ rh_ c_ s_ kp_ x3 (x4 + 1) M h
  have t116 : ∀ (k105 : gKd → gLn → Nat → Nat → Int → gM → Prop), (∀ (kd_ : gKd) (ln_ : gLn) (rh_ : gRh) (c_ s_ : Nat) (kp_ : gKp kd ln rh kd_ ln_ rh_), ∀ (x3 : Int), ∀ (M : gM), k105 kd_ ln_ c_ s_ x3 M → gW p l e (gRx 2 44 mc ms) s m args below meth c D cy A H0 Q 5 kd_ ln_ rh_ c_ s_ M 105 [(0, .ref (gad a0)), (1, .ref (gad a1)), (2, .int (gI a2)), (3, .int (gI x3))] []) → ∀ (n : Nat) (kd_ : gKd) (ln_ : gLn) (rh_ : gRh) (c_ s_ : Nat) (kp_ : gKp kd ln rh kd_ ln_ rh_) (x3 : Int) (x4 : Int) (M : gM), wX2_init_116 mc ms post a0 a1 a2 k105 n kd_ ln_ c_ s_ x3 x4 M → gW p l e (gRx 2 44 mc ms) s m args below meth c D cy A H0 Q 5 kd_ ln_ rh_ c_ s_ M 116 [(0, .ref (gad a0)), (1, .ref (gad a1)), (2, .int (gI a2)), (3, .int (gI x3)), (4, .int (gI x4))] [] := by
    intro k105 hk105_
    intro n
    induction n with
    | zero => intro kd_ ln_ rh_ c_ s_ kp_ x3 x4 M h; exact absurd h (by simp [wX2_init_116])
    | succ n ih =>
      intro kd_ ln_ rh_ c_ s_ kp_ x3 x4 M h
      have hk116_ := ih
      rw [wX2_init_116] at h
      obtain ⟨r64, h⟩ := h
      refine q_iload C 4 rfl dX2_init_116 ?_
      refine q_aload_n C 0 rfl rfl dX2_init_118 ?_
      refine q_get (v := .int (gI (M a0 3 (-1)))) C fX2_15 (gKp_k kp_ hk0 (by decide)) rfl dX2_init_119 (fun g65 => ?_)
      have h := h g65
      obtain ⟨r66, h⟩ := h
      refine q_icmp_ge (tgt := 155) C r66 g65 (by decide) dX2_init_122 (fun b67 => ?_) (fun b67 => ?_)
      · have h := h.1 b67
        refine q_iinc (lv' := [(3, .int (gI (x3 + 1))), (0, .ref (gad a0)), (1, .ref (gad a1)), (2, .int (gI a2)), (4, .int (gI x4))]) C 3 rfl (by decide) rfl dX2_init_155 ?_
        refine q_goto (tgt := 105) C (by decide) dX2_init_158 ?_
        refine q_lv (lv' := [(0, .ref (gad a0)), (1, .ref (gad a1)), (2, .int (gI a2)), (3, .int (gI (x3 + 1)))]) [1, 2, 3, 0] rfl ?_
        exact hk105_ kd_ ln_ rh_ c_ s_ kp_ (x3 + 1) M h
      · have h := h.2 b67
        refine q_iload_n C 3 rfl rfl dX2_init_125 ?_
        refine q_iload C 4 rfl dX2_init_126 ?_
        obtain ⟨r68, h⟩ := h
        refine q_icmp_eq (tgt := 149) C r68 r66 (by decide) dX2_init_128 (fun b69 => ?_) (fun b69 => ?_)
        · have h := h.1 b69
          exact t149 k105 hk105_ (wX2_init_116 mc ms post a0 a1 a2 k105 n) hk116_ kd_ ln_ rh_ c_ s_ kp_ x3 x4 M h
        · have h := h.2 b69
          refine q_aload_n C 1 rfl rfl dX2_init_131 ?_
          refine q_iload_n C 3 rfl rfl dX2_init_132 ?_
          refine q_iload C 4 rfl dX2_init_133 ?_
          refine q_callVI (As := [.int (gI x3), .int (gI x4)]) (st := []) C vX2_44 kX0_areNext r64 ⟨Nat.le_of_ble_eq_true rfl, Nat.le_of_ble_eq_true rfl⟩ rfl (gKp_k kp_ hk1 (by decide)) ⟨_, _, rfl⟩ (by decide) rfl (Nat.le_of_ble_eq_true rfl) (mX0_areNext l D cy kd_ ln_ rh_ _ a1 x3 x4 M (gKp_k kp_ hk1 (by decide)) h) dX2_init_135 (fun c71 M70 g72 h => ?_)
          have h := h g72
          refine q_if_ne (tgt := 149) C g72 (by decide) dX2_init_138 (fun b73 => ?_) (fun b73 => ?_)
          · have h := h.1 b73
            exact t149 k105 hk105_ (wX2_init_116 mc ms post a0 a1 a2 k105 n) hk116_ kd_ ln_ rh_ c_ s_ kp_ x3 x4 M70 h
          · have h := h.2 b73
            refine q_aload_n C 0 rfl rfl dX2_init_141 ?_
            refine q_iload_n C 3 rfl rfl dX2_init_142 ?_
            refine q_iload C 4 rfl dX2_init_143 ?_
            refine q_iload_n C 2 rfl rfl dX2_init_145 ?_
            refine q_callVV (As := [.int (gI x3), .int (gI x4), .int (gI a2)]) (st := []) C vX2_48 kX2_enter r64 ⟨Nat.le_of_ble_eq_true rfl, Nat.le_of_ble_eq_true rfl⟩ rfl (gKp_k kp_ hk0 (by decide)) ⟨_, _, rfl⟩ (by decide) rfl (Nat.le_of_ble_eq_true rfl) (mX2_enter l D cy kd_ ln_ rh_ _ a0 x3 x4 a2 M70 (gKp_k kp_ hk0 (by decide)) h) dX2_init_146 (fun M74 h => ?_)
            exact t149 k105 hk105_ (wX2_init_116 mc ms post a0 a1 a2 k105 n) hk116_ kd_ ln_ rh_ c_ s_ kp_ x3 x4 M74 h
  have t105 : ∀ (n : Nat) (kd_ : gKd) (ln_ : gLn) (rh_ : gRh) (c_ s_ : Nat) (kp_ : gKp kd ln rh kd_ ln_ rh_) (x3 : Int) (M : gM), wX2_init_105 mc ms post a0 a1 a2 n kd_ ln_ c_ s_ x3 M → gW p l e (gRx 2 44 mc ms) s m args below meth c D cy A H0 Q 5 kd_ ln_ rh_ c_ s_ M 105 [(0, .ref (gad a0)), (1, .ref (gad a1)), (2, .int (gI a2)), (3, .int (gI x3))] [] := by
    intro n
    induction n with
    | zero => intro kd_ ln_ rh_ c_ s_ kp_ x3 M h; exact absurd h (by simp [wX2_init_105])
    | succ n ih =>
      intro kd_ ln_ rh_ c_ s_ kp_ x3 M h
      have hk105_ := ih
      rw [wX2_init_105] at h
      obtain ⟨r60, h⟩ := h
      refine q_iload_n C 3 rfl rfl dX2_init_105 ?_
      refine q_aload_n C 0 rfl rfl dX2_init_106 ?_
      refine q_get (v := .int (gI (M a0 3 (-1)))) C fX2_15 (gKp_k kp_ hk0 (by decide)) rfl dX2_init_107 (fun g61 => ?_)
      have h := h g61
      obtain ⟨r62, h⟩ := h
      refine q_icmp_ge (tgt := 161) C r62 g61 (by decide) dX2_init_110 (fun b63 => ?_) (fun b63 => ?_)
      · have h := h.1 b63
        exact hret kd_ ln_ rh_ M _ _ _ _ r60.1 r60.2 kp_ dX2_init_161 h
      · have h := h.2 b63
        refine q_iconst C dX2_init_113 ?_
        refine q_istore (lv' := [(4, .int (gI 0)), (0, .ref (gad a0)), (1, .ref (gad a1)), (2, .int (gI a2)), (3, .int (gI x3))]) C (by decide) rfl dX2_init_114 ?_
        refine q_lv (lv' := [(0, .ref (gad a0)), (1, .ref (gad a1)), (2, .int (gI a2)), (3, .int (gI x3)), (4, .int (gI 0))]) [1, 2, 3, 4, 0] rfl ?_
        obtain ⟨j116, h⟩ := h
        exact t116 (wX2_init_105 mc ms post a0 a1 a2 n) hk105_ j116 kd_ ln_ rh_ c_ s_ kp_ x3 0 M h
  unfold wX2_init at h
  refine q_aload_n C 0 rfl rfl dX2_init_0 ?_
  refine q_objInit (o := a0) C obX2_3 (Nat.le_of_ble_eq_true rfl) (Nat.le_of_ble_eq_true rfl) dX2_init_1 ?_
  refine q_aload_n C 0 rfl rfl dX2_init_4 ?_
  refine q_aload_n C 1 rfl rfl dX2_init_5 ?_
  refine q_get (v := .int (gI (M a1 1 (-1)))) C fX2_9 hk1 rfl dX2_init_6 (fun g1 => ?_)
  have h := h g1
  refine q_putF (x := (M a1 1 (-1))) (ty := .int) C hin fX2_15 (fun _ _ _ q => by cases q; rfl) hk0 (fun _ _ _ q => by cases q; rfl) (congrArg (fun z => Value.int (gI z)) gu_s) rfl rfl g1 (fun j q => absurd (show (0 : Nat) = j + 3 from q) (by omega)) dX2_init_9 ?_
  refine q_aload_n C 0 rfl rfl dX2_init_12 ?_
  refine q_aload_n C 1 rfl rfl dX2_init_13 ?_
  obtain ⟨r2, h⟩ := h
  refine q_get (v := .ref (rh a1 4)) C fX2_18 hk1 (if_neg (Int.not_lt.mpr r2)) dX2_init_14 (fun g3 => ?_)
  obtain ⟨r4, h⟩ := h
  refine q_putF (x := a1) (v := .ref (rh a1 4)) (ty := .array .int) C hin fX2_22 (fun _ _ _ q => by cases q; rfl) hk0 (fun _ _ _ q => by cases q; rfl) (gfa_put (j := 4) rfl r4) rfl rfl (Int.le_of_lt r4) (fun j q _ => gfa_al (j0 := 4) q r2) dX2_init_17 ?_
  refine q_aload_n C 0 rfl rfl dX2_init_20 ?_
  refine q_aload_n C 0 rfl rfl dX2_init_21 ?_
  refine q_get (v := .int (gI ((gu (gu M a0 3 (-1) (M a1 1 (-1))) a0 4 (-1) a1) a0 3 (-1)))) C fX2_15 hk0 rfl dX2_init_22 (fun g5 => ?_)
  have h := h g5
  refine q_aload_n C 0 rfl rfl dX2_init_25 ?_
  refine q_get (v := .int (gI ((gu (gu M a0 3 (-1) (M a1 1 (-1))) a0 4 (-1) a1) a0 3 (-1)))) C fX2_15 hk0 rfl dX2_init_26 (fun g6 => ?_)
  refine q_imul C dX2_init_29 ?_
  obtain ⟨r7, h⟩ := h
  obtain ⟨r8, h⟩ := h
  obtain ⟨r9, h⟩ := h
  refine q_newput (t0 := 0) (ty := .int) C hin fX2_23 (fun _ _ _ q => by cases q; rfl) hk0 rfl rfl ac8 rfl (fun _ => rfl) (fun _ _ _ => rfl) (fun _ _ _ q => by cases q; rfl) r7 r8 (by decide) r9.1 r9.2 dX2_init_30 dX2_init_32 (fun ln10 rh11 e12 kn13 => ?_)
  have h := h ln10 e12
  have kp14 := gKp_t gKp_r kn13
  refine q_aload_n C 0 rfl rfl dX2_init_35 ?_
  refine q_aload_n C 0 rfl rfl dX2_init_36 ?_
  refine q_get (v := .int (gI ((gza (gu (gu M a0 3 (-1) (M a1 1 (-1))) a0 4 (-1) a1) a0 5) a0 3 (-1)))) C fX2_15 (gKp_k kn13 hk0 (by decide)) rfl dX2_init_37 (fun g15 => ?_)
  have h := h g15
  refine q_aload_n C 0 rfl rfl dX2_init_40 ?_
  refine q_get (v := .int (gI ((gza (gu (gu M a0 3 (-1) (M a1 1 (-1))) a0 4 (-1) a1) a0 5) a0 3 (-1)))) C fX2_15 (gKp_k kn13 hk0 (by decide)) rfl dX2_init_41 (fun g16 => ?_)
  refine q_imul C dX2_init_44 ?_
  obtain ⟨r17, h⟩ := h
  obtain ⟨r18, h⟩ := h
  obtain ⟨r19, h⟩ := h
  refine q_newput (t0 := 0) (ty := .int) C hin fX2_26 (fun _ _ _ q => by cases q; rfl) (gKp_k kn13 hk0 (by decide)) rfl rfl ac8 rfl (fun _ => rfl) (fun _ _ _ => rfl) (fun _ _ _ q => by cases q; rfl) r17 r18 (by decide) r19.1 r19.2 dX2_init_45 dX2_init_47 (fun ln20 rh21 e22 kn23 => ?_)
  have h := h ln20 e22
  have kp24 := gKp_t kp14 kn23
  refine q_aload_n C 0 rfl rfl dX2_init_50 ?_
  refine q_aload_n C 0 rfl rfl dX2_init_51 ?_
  refine q_get (v := .int (gI ((gza (gza (gu (gu M a0 3 (-1) (M a1 1 (-1))) a0 4 (-1) a1) a0 5) a0 6) a0 3 (-1)))) C fX2_15 (gKp_k kn23 (gKp_k kn13 hk0 (by decide)) (by decide)) rfl dX2_init_52 (fun g25 => ?_)
  have h := h g25
  refine q_aload_n C 0 rfl rfl dX2_init_55 ?_
  refine q_get (v := .int (gI ((gza (gza (gu (gu M a0 3 (-1) (M a1 1 (-1))) a0 4 (-1) a1) a0 5) a0 6) a0 3 (-1)))) C fX2_15 (gKp_k kn23 (gKp_k kn13 hk0 (by decide)) (by decide)) rfl dX2_init_56 (fun g26 => ?_)
  refine q_imul C dX2_init_59 ?_
  obtain ⟨r27, h⟩ := h
  obtain ⟨r28, h⟩ := h
  obtain ⟨r29, h⟩ := h
  refine q_newput (t0 := 0) (ty := .int) C hin fX2_29 (fun _ _ _ q => by cases q; rfl) (gKp_k kn23 (gKp_k kn13 hk0 (by decide)) (by decide)) rfl rfl ac8 rfl (fun _ => rfl) (fun _ _ _ => rfl) (fun _ _ _ q => by cases q; rfl) r27 r28 (by decide) r29.1 r29.2 dX2_init_60 dX2_init_62 (fun ln30 rh31 e32 kn33 => ?_)
  have h := h ln30 e32
  have kp34 := gKp_t kp24 kn33
  refine q_aload_n C 0 rfl rfl dX2_init_65 ?_
  refine q_aload_n C 0 rfl rfl dX2_init_66 ?_
  refine q_get (v := .int (gI ((gza (gza (gza (gu (gu M a0 3 (-1) (M a1 1 (-1))) a0 4 (-1) a1) a0 5) a0 6) a0 7) a0 3 (-1)))) C fX2_15 (gKp_k kn33 (gKp_k kn23 (gKp_k kn13 hk0 (by decide)) (by decide)) (by decide)) rfl dX2_init_67 (fun g35 => ?_)
  have h := h g35
  refine q_aload_n C 0 rfl rfl dX2_init_70 ?_
  refine q_get (v := .int (gI ((gza (gza (gza (gu (gu M a0 3 (-1) (M a1 1 (-1))) a0 4 (-1) a1) a0 5) a0 6) a0 7) a0 3 (-1)))) C fX2_15 (gKp_k kn33 (gKp_k kn23 (gKp_k kn13 hk0 (by decide)) (by decide)) (by decide)) rfl dX2_init_71 (fun g36 => ?_)
  refine q_imul C dX2_init_74 ?_
  obtain ⟨r37, h⟩ := h
  obtain ⟨r38, h⟩ := h
  obtain ⟨r39, h⟩ := h
  refine q_newput (t0 := 0) (ty := .int) C hin fX2_32 (fun _ _ _ q => by cases q; rfl) (gKp_k kn33 (gKp_k kn23 (gKp_k kn13 hk0 (by decide)) (by decide)) (by decide)) rfl rfl ac8 rfl (fun _ => rfl) (fun _ _ _ => rfl) (fun _ _ _ q => by cases q; rfl) r37 r38 (by decide) r39.1 r39.2 dX2_init_75 dX2_init_77 (fun ln40 rh41 e42 kn43 => ?_)
  have h := h ln40 e42
  have kp44 := gKp_t kp34 kn43
  refine q_aload_n C 0 rfl rfl dX2_init_80 ?_
  refine q_aload_n C 0 rfl rfl dX2_init_81 ?_
  refine q_get (v := .int (gI ((gza (gza (gza (gza (gu (gu M a0 3 (-1) (M a1 1 (-1))) a0 4 (-1) a1) a0 5) a0 6) a0 7) a0 1) a0 3 (-1)))) C fX2_15 (gKp_k kn43 (gKp_k kn33 (gKp_k kn23 (gKp_k kn13 hk0 (by decide)) (by decide)) (by decide)) (by decide)) rfl dX2_init_82 (fun g45 => ?_)
  have h := h g45
  refine q_aload_n C 0 rfl rfl dX2_init_85 ?_
  refine q_get (v := .int (gI ((gza (gza (gza (gza (gu (gu M a0 3 (-1) (M a1 1 (-1))) a0 4 (-1) a1) a0 5) a0 6) a0 7) a0 1) a0 3 (-1)))) C fX2_15 (gKp_k kn43 (gKp_k kn33 (gKp_k kn23 (gKp_k kn13 hk0 (by decide)) (by decide)) (by decide)) (by decide)) rfl dX2_init_86 (fun g46 => ?_)
  refine q_imul C dX2_init_89 ?_
  obtain ⟨r47, h⟩ := h
  obtain ⟨r48, h⟩ := h
  obtain ⟨r49, h⟩ := h
  refine q_newput (t0 := 0) (ty := .int) C hin fX2_35 (fun _ _ _ q => by cases q; rfl) (gKp_k kn43 (gKp_k kn33 (gKp_k kn23 (gKp_k kn13 hk0 (by decide)) (by decide)) (by decide)) (by decide)) rfl rfl ac8 rfl (fun _ => rfl) (fun _ _ _ => rfl) (fun _ _ _ q => by cases q; rfl) r47 r48 (by decide) r49.1 r49.2 dX2_init_90 dX2_init_92 (fun ln50 rh51 e52 kn53 => ?_)
  have h := h ln50 e52
  have kp54 := gKp_t kp44 kn53
  refine q_aload_n C 0 rfl rfl dX2_init_95 ?_
  obtain ⟨r55, h⟩ := h
  refine q_get (v := .ref (rh51 a0 5)) C fX2_23 (gKp_k kn53 (gKp_k kn43 (gKp_k kn33 (gKp_k kn23 (gKp_k kn13 hk0 (by decide)) (by decide)) (by decide)) (by decide)) (by decide)) (if_neg (Int.not_lt.mpr r55)) dX2_init_96 (fun g56 => ?_)
  refine q_iconst C dX2_init_99 ?_
  refine q_callSV (As := [.ref (rh51 a0 5), .int (gI (-1))]) (st := []) C vX2_38 kJ7_fill_53178 r49 ⟨Nat.le_of_ble_eq_true rfl, Nat.le_of_ble_eq_true rfl⟩ rfl rfl (Nat.le_of_ble_eq_true rfl) (mJ7_fill_53178 l D cy kd ln50 rh51 _ a0 5 (-1) (gza (gza (gza (gza (gza (gu (gu M a0 3 (-1) (M a1 1 (-1))) a0 4 (-1) a1) a0 5) a0 6) a0 7) a0 1) a0 2) (by rw [(gKp_k kn53 (gKp_k kn43 (gKp_k kn33 (gKp_k kn23 (gKp_k kn13 hk0 (by decide)) (by decide)) (by decide)) (by decide)) (by decide))]; rfl) (fun _ q => by rw [(gKp_k kn53 (gKp_k kn43 (gKp_k kn33 (gKp_k kn23 (gKp_k kn13 hk0 (by decide)) (by decide)) (by decide)) (by decide)) (by decide))]; exact q) h) dX2_init_100 (fun M57 h => ?_)
  refine q_iconst C dX2_init_103 ?_
  refine q_istore_n (lv' := [(3, .int (gI 0)), (0, .ref (gad a0)), (1, .ref (gad a1)), (2, .int (gI a2))]) C rfl (by decide) rfl dX2_init_104 ?_
  refine q_lv (lv' := [(0, .ref (gad a0)), (1, .ref (gad a1)), (2, .int (gI a2)), (3, .int (gI 0))]) [1, 2, 3, 0] rfl ?_
  obtain ⟨j105, h⟩ := h
  exact t105  j105 kd ln50 rh51 (0 + 1 + 1 + 1 + 1 + 1) (0 + Int.toNat (((gu (gu M a0 3 (-1) (M a1 1 (-1))) a0 4 (-1) a1) a0 3 (-1)) * ((gu (gu M a0 3 (-1) (M a1 1 (-1))) a0 4 (-1) a1) a0 3 (-1))) + Int.toNat (((gza (gu (gu M a0 3 (-1) (M a1 1 (-1))) a0 4 (-1) a1) a0 5) a0 3 (-1)) * ((gza (gu (gu M a0 3 (-1) (M a1 1 (-1))) a0 4 (-1) a1) a0 5) a0 3 (-1))) + Int.toNat (((gza (gza (gu (gu M a0 3 (-1) (M a1 1 (-1))) a0 4 (-1) a1) a0 5) a0 6) a0 3 (-1)) * ((gza (gza (gu (gu M a0 3 (-1) (M a1 1 (-1))) a0 4 (-1) a1) a0 5) a0 6) a0 3 (-1))) + Int.toNat (((gza (gza (gza (gu (gu M a0 3 (-1) (M a1 1 (-1))) a0 4 (-1) a1) a0 5) a0 6) a0 7) a0 3 (-1)) * ((gza (gza (gza (gu (gu M a0 3 (-1) (M a1 1 (-1))) a0 4 (-1) a1) a0 5) a0 6) a0 7) a0 3 (-1))) + Int.toNat (((gza (gza (gza (gza (gu (gu M a0 3 (-1) (M a1 1 (-1))) a0 4 (-1) a1) a0 5) a0 6) a0 7) a0 1) a0 3 (-1)) * ((gza (gza (gza (gza (gu (gu M a0 3 (-1) (M a1 1 (-1))) a0 4 (-1) a1) a0 5) a0 6) a0 7) a0 1) a0 3 (-1)))) kp54 0 M57 h
set_option maxHeartbeats 4000000 in
set_option maxRecDepth 100000 in
theorem mX0_pairsFor (l : Launch) (D : va_G) (cy : Nat → ClassId) (mc ms : Nat) (kd : gKd) (ln : gLn) (rh : gRh) (post : Int → gKd → gLn → gM → Prop) (a0 : Int) (a1 : Int) (M : gM) (hk0 : kd a0 = 0) (h : wX0_pairsFor mc ms kd ln post a0 a1 M) : gXR l D cy yX0_pairsFor cX0_pairsFor 2 RX2 3 68 mc ms [.ref (gad a0), .int (gI a1)] kd ln rh M post := by
  refine gXR_of (own := RX0) (by decide) rfl (Nat.le_of_ble_eq_true rfl) ?_
  intro p e s m args below meth c A H0 Q C hin hret
  have t29 : ∀ (kd_ : gKd) (ln_ : gLn) (rh_ : gRh) (c_ s_ : Nat) (kp_ : gKp kd ln rh kd_ ln_ rh_) (y0 : Int) (M : gM), wX0_pairsFor_29 mc ms post a0 a1 kd_ ln_ c_ s_ y0 M → gW p l e (gRx 3 68 mc ms) s m args below meth c D cy A H0 Q 2 kd_ ln_ rh_ c_ s_ M 29 [(0, .ref (gad a0))] [.ref (gad y0), .ref (gad a0)] := by
    intro  kd_ ln_ rh_ c_ s_ kp_ y0 M h
    unfold wX0_pairsFor_29 at h
    obtain ⟨r53, h⟩ := h
    obtain ⟨r54, h⟩ := h
    obtain ⟨r55, h⟩ := h
    refine q_putO (x := y0) (Cn := RX2) C fX0_120 (gKp_k kp_ hk0 (by decide)) (fun _ _ _ q => by cases q; rfl) rfl r55 (Int.le_of_lt r55) dX0_pairsFor_29 ?_
    refine q_aload_n C 0 rfl rfl dX0_pairsFor_32 ?_
    refine q_get (v := gR ((gu M a0 10 (-1) y0) a0 10 (-1))) C fX0_120 (gKp_k kp_ hk0 (by decide)) rfl dX0_pairsFor_33 (fun g56 => ?_)
    obtain ⟨r57, h⟩ := h
    refine q_nn r57 (by decide) ?_
    exact hret ((gu M a0 10 (-1) y0) a0 10 (-1)) kd_ ln_ rh_ (gu M a0 10 (-1) y0) _ _ _ _ r54.1 r54.2 kp_ dX0_pairsFor_36 h
  have t62 : ∀ (kd_ : gKd) (ln_ : gLn) (rh_ : gRh) (c_ s_ : Nat) (kp_ : gKp kd ln rh kd_ ln_ rh_) (y0 : Int) (M : gM), wX0_pairsFor_62 mc ms post a0 a1 kd_ ln_ c_ s_ y0 M → gW p l e (gRx 3 68 mc ms) s m args below meth c D cy A H0 Q 2 kd_ ln_ rh_ c_ s_ M 62 [(0, .ref (gad a0))] [.ref (gad y0), .ref (gad a0)] := by
    intro  kd_ ln_ rh_ c_ s_ kp_ y0 M h
    unfold wX0_pairsFor_62 at h
    obtain ⟨r58, h⟩ := h
    obtain ⟨r59, h⟩ := h
    obtain ⟨r60, h⟩ := h
    refine q_putO (x := y0) (Cn := RX2) C fX0_129 (gKp_k kp_ hk0 (by decide)) (fun _ _ _ q => by cases q; rfl) rfl r60 (Int.le_of_lt r60) dX0_pairsFor_62 ?_
    refine q_aload_n C 0 rfl rfl dX0_pairsFor_65 ?_
    refine q_get (v := gR ((gu M a0 9 (-1) y0) a0 9 (-1))) C fX0_129 (gKp_k kp_ hk0 (by decide)) rfl dX0_pairsFor_66 (fun g61 => ?_)
    obtain ⟨r62, h⟩ := h
    refine q_nn r62 (by decide) ?_
    exact hret ((gu M a0 9 (-1) y0) a0 9 (-1)) kd_ ln_ rh_ (gu M a0 9 (-1) y0) _ _ _ _ r59.1 r59.2 kp_ dX0_pairsFor_69 h
  unfold wX0_pairsFor at h
  refine q_iload_n C 1 rfl rfl dX0_pairsFor_0 ?_
  refine q_iconst C dX0_pairsFor_1 ?_
  obtain ⟨r1, h⟩ := h
  refine q_icmp_ne (tgt := 37) C r1 (show rng 2 by decide) (by decide) dX0_pairsFor_2 (fun b2 => ?_) (fun b2 => ?_)
  · have h := h.1 b2
    refine q_aload_n C 0 rfl rfl dX0_pairsFor_37 ?_
    refine q_aload_n C 0 rfl rfl dX0_pairsFor_38 ?_
    refine q_get (v := gR (M a0 9 (-1))) C fX0_129 hk0 rfl dX0_pairsFor_39 (fun g3 => ?_)
    refine q_ifnonnull (tgt := 58) C (by decide) dX0_pairsFor_42 (fun b4 => ?_) (fun b4 => ?_)
    · have h := h.1 b4
      refine q_aload_n C 0 rfl rfl dX0_pairsFor_58 ?_
      refine q_get (v := gR (M a0 9 (-1))) C fX0_129 hk0 rfl dX0_pairsFor_59 (fun g5 => ?_)
      obtain ⟨r6, h⟩ := h
      refine q_nn r6 (by decide) ?_
      refine q_lv (lv' := [(0, .ref (gad a0))]) [0] rfl ?_
      exact t62  kd ln rh 0 0 gKp_r (M a0 9 (-1)) M h
    · have h := h.2 b4
      obtain ⟨r7, h⟩ := h
      refine q_new C wX0_124 r7.1 r7.2 dX0_pairsFor_45 (fun o8 kd9 M10 g11 g12 g13 e14 e15 kn16 => ?_)
      have h := h o8 kd9 M10 g11 g12 g13 e14 e15
      have hk17 : kd9 o8 = 2 := by rw [e14]; exact gkn_s
      have kp18 := gKp_t gKp_r kn16
      refine q_dup C rfl dX0_pairsFor_48 ?_
      refine q_aload_n C 0 rfl rfl dX0_pairsFor_49 ?_
      refine q_bipush C (by decide) dX0_pairsFor_50 ?_
      obtain ⟨mc19, ms20, r26, h⟩ := h
      refine q_callIX (As := [.ref (gad a0), .int (gI 8)]) (st := [.ref (gad o8), .ref (gad a0)]) (o := o8) C iX0_126 kX2_init r26 ⟨Nat.le_of_ble_eq_true rfl, Nat.le_of_ble_eq_true rfl⟩ rfl rfl (Nat.le_of_ble_eq_true rfl) (mX2_init l D cy mc19 ms20 kd9 ln rh _ o8 a0 8 M10 hk17 (gKp_k kn16 hk0 (by decide)) h) dX0_pairsFor_52 (fun kd21 ln22 rh23 M24 kn25 h => ?_)
      have kp27 := gKp_t kp18 kn25
      refine q_goto (tgt := 62) C (by decide) dX0_pairsFor_55 ?_
      refine q_lv (lv' := [(0, .ref (gad a0))]) [0] rfl ?_
      exact t62  kd21 ln22 rh23 (0 + 1 + mc19) (0 + 8 + ms20) kp27 o8 M24 h
  · have h := h.2 b2
    refine q_aload_n C 0 rfl rfl dX0_pairsFor_5 ?_
    refine q_aload_n C 0 rfl rfl dX0_pairsFor_6 ?_
    refine q_get (v := gR (M a0 10 (-1))) C fX0_120 hk0 rfl dX0_pairsFor_7 (fun g28 => ?_)
    refine q_ifnonnull (tgt := 25) C (by decide) dX0_pairsFor_10 (fun b29 => ?_) (fun b29 => ?_)
    · have h := h.1 b29
      refine q_aload_n C 0 rfl rfl dX0_pairsFor_25 ?_
      refine q_get (v := gR (M a0 10 (-1))) C fX0_120 hk0 rfl dX0_pairsFor_26 (fun g30 => ?_)
      obtain ⟨r31, h⟩ := h
      refine q_nn r31 (by decide) ?_
      refine q_lv (lv' := [(0, .ref (gad a0))]) [0] rfl ?_
      exact t29  kd ln rh 0 0 gKp_r (M a0 10 (-1)) M h
    · have h := h.2 b29
      obtain ⟨r32, h⟩ := h
      refine q_new C wX0_124 r32.1 r32.2 dX0_pairsFor_13 (fun o33 kd34 M35 g36 g37 g38 e39 e40 kn41 => ?_)
      have h := h o33 kd34 M35 g36 g37 g38 e39 e40
      have hk42 : kd34 o33 = 2 := by rw [e39]; exact gkn_s
      have kp43 := gKp_t gKp_r kn41
      refine q_dup C rfl dX0_pairsFor_16 ?_
      refine q_aload_n C 0 rfl rfl dX0_pairsFor_17 ?_
      refine q_iconst C dX0_pairsFor_18 ?_
      obtain ⟨mc44, ms45, r51, h⟩ := h
      refine q_callIX (As := [.ref (gad a0), .int (gI 2)]) (st := [.ref (gad o33), .ref (gad a0)]) (o := o33) C iX0_126 kX2_init r51 ⟨Nat.le_of_ble_eq_true rfl, Nat.le_of_ble_eq_true rfl⟩ rfl rfl (Nat.le_of_ble_eq_true rfl) (mX2_init l D cy mc44 ms45 kd34 ln rh _ o33 a0 2 M35 hk42 (gKp_k kn41 hk0 (by decide)) h) dX0_pairsFor_19 (fun kd46 ln47 rh48 M49 kn50 h => ?_)
      have kp52 := gKp_t kp43 kn50
      refine q_goto (tgt := 29) C (by decide) dX0_pairsFor_22 ?_
      refine q_lv (lv' := [(0, .ref (gad a0))]) [0] rfl ?_
      exact t29  kd46 ln47 rh48 (0 + 1 + mc44) (0 + 8 + ms45) kp52 o33 M49 h
set_option maxHeartbeats 4000000 in
set_option maxRecDepth 100000 in
theorem mX0_pawnSources (l : Launch) (D : va_G) (cy : Nat → ClassId) (kd : gKd) (ln : gLn) (rh : gRh) (post : BitVec 64 → gM → Prop) (a0 : Int) (a1 : Int) (a2 : Int) (a3 : Int) (M : gM) (hk0 : kd a0 = 0) (h : wX0_pawnSources kd ln post a0 a1 a2 a3 M) : gML l D cy yX0_pawnSources cX0_pawnSources 7 1 20 [.ref (gad a0), .int (gI a1), .int (gI a2), .int (gI a3)] kd ln rh M post := by
  refine gML_of (own := RX0) (by decide) rfl (Nat.le_of_ble_eq_true rfl) ?_
  intro p e s m args below meth c A H0 Q C hret
  have t77 : ∀ (x4 : Int) (x5 : Int) (y0 : Int) (M : gM), wX0_pawnSources_77 kd ln post a0 a1 a2 a3 x4 x5 y0 M → gW p l e (gRm 1 20) s m args below meth c D cy A H0 Q 7 kd ln rh 0 0 M 77 [(4, .int (gI x4)), (5, .int (gI x5))] [.int (gI y0)] := by
    intro  x4 x5 y0 M h
    unfold wX0_pawnSources_77 at h
    refine q_istore (lv' := [(6, .int (gI y0)), (4, .int (gI x4)), (5, .int (gI x5))]) C (by decide) rfl dX0_pawnSources_77 ?_
    refine q_iload C 0 rfl dX0_pawnSources_79 ?_
    obtain ⟨r20, h⟩ := h
    refine q_if_eq (tgt := 98) C r20 (by decide) dX0_pawnSources_81 (fun b21 => ?_) (fun b21 => ?_)
    · have h := h.1 b21
      refine q_iload C 1 rfl dX0_pawnSources_98 ?_
      refine q_callNL (As := [.int (gI x4)]) (st := []) C vX0_62 kX6_bit ⟨Nat.le_of_ble_eq_true rfl, Nat.le_of_ble_eq_true rfl⟩ ⟨Nat.le_of_ble_eq_true rfl, Nat.le_of_ble_eq_true rfl⟩ rfl rfl (Nat.le_of_ble_eq_true rfl) (mX6_bit l D cy kd ln rh _ x4 M  h) dX0_pawnSources_100 (fun c23 M22 h => ?_)
      exact hret c23 M22 _ _ dX0_pawnSources_103 h
    · have h := h.2 b21
      refine q_iload C 1 rfl dX0_pawnSources_84 ?_
      refine q_callNL (As := [.int (gI x4)]) (st := []) C vX0_62 kX6_bit ⟨Nat.le_of_ble_eq_true rfl, Nat.le_of_ble_eq_true rfl⟩ ⟨Nat.le_of_ble_eq_true rfl, Nat.le_of_ble_eq_true rfl⟩ rfl rfl (Nat.le_of_ble_eq_true rfl) (mX6_bit l D cy kd ln rh _ x4 M  h) dX0_pawnSources_86 (fun c26 M25 h => ?_)
      refine q_iload C 2 rfl dX0_pawnSources_89 ?_
      refine q_callNL (As := [.int (gI x5)]) (st := [.long (gL c26)]) C vX0_62 kX6_bit ⟨Nat.le_of_ble_eq_true rfl, Nat.le_of_ble_eq_true rfl⟩ ⟨Nat.le_of_ble_eq_true rfl, Nat.le_of_ble_eq_true rfl⟩ rfl rfl (Nat.le_of_ble_eq_true rfl) (mX6_bit l D cy kd ln rh _ x5 M25  h) dX0_pawnSources_91 (fun c29 M28 h => ?_)
      refine q_lor C dX0_pawnSources_94 ?_
      refine q_goto (tgt := 103) C (by decide) dX0_pawnSources_95 ?_
      exact hret (c26 ||| c29) M28 _ _ dX0_pawnSources_103 h
  have t76 : ∀ (x4 : Int) (x5 : Int) (M : gM), wX0_pawnSources_76 kd ln post a0 a1 a2 a3 x4 x5 M → gW p l e (gRm 1 20) s m args below meth c D cy A H0 Q 7 kd ln rh 0 0 M 76 [(4, .int (gI x4)), (5, .int (gI x5))] [] := by
    intro  x4 x5 M h
    unfold wX0_pawnSources_76 at h
    refine q_iconst C dX0_pawnSources_76 ?_
    exact t77  x4 x5 0 M h
  unfold wX0_pawnSources at h
  refine q_iload_n C 3 rfl rfl dX0_pawnSources_0 ?_
  refine q_aload_n C 0 rfl rfl dX0_pawnSources_1 ?_
  refine q_get (v := .int (gI (M a0 0 (-1)))) C fX0_17 hk0 rfl dX0_pawnSources_2 (fun g1 => ?_)
  have h := h g1
  refine q_isub C dX0_pawnSources_5 ?_
  refine q_topi (fun v2 ev2 => ?_)
  have h := h v2 ev2
  refine q_istore (lv' := [(4, .int (gI v2)), (0, .ref (gad a0)), (1, .int (gI a1)), (2, .int (gI a2)), (3, .int (gI a3))]) C (by decide) rfl dX0_pawnSources_6 ?_
  refine q_iload C 0 rfl dX0_pawnSources_8 ?_
  refine q_aload_n C 1 rfl rfl dX0_pawnSources_10 ?_
  refine q_get (v := .int (gI (M a0 0 (-1)))) C fX0_17 hk0 rfl dX0_pawnSources_11 (fun g3 => ?_)
  obtain ⟨r4, h⟩ := h
  refine q_icmp_lt (tgt := 29) C r4 g1 (by decide) dX0_pawnSources_14 (fun b5 => ?_) (fun b5 => ?_)
  · have h := h.1 b5
    refine q_lconst (b := 0) C rfl dX0_pawnSources_29 ?_
    exact hret (0 : BitVec 64) M _ _ dX0_pawnSources_30 h
  · have h := h.2 b5
    refine q_iload C 0 rfl dX0_pawnSources_17 ?_
    refine q_iload_n C 2 rfl rfl dX0_pawnSources_19 ?_
    obtain ⟨r6, h⟩ := h
    refine q_icmp_eq (tgt := 29) C r4 r6 (by decide) dX0_pawnSources_20 (fun b7 => ?_) (fun b7 => ?_)
    · have h := h.1 b7
      refine q_lconst (b := 0) C rfl dX0_pawnSources_29 ?_
      exact hret (0 : BitVec 64) M _ _ dX0_pawnSources_30 h
    · have h := h.2 b7
      refine q_iload C 0 rfl dX0_pawnSources_23 ?_
      refine q_iload_n C 3 rfl rfl dX0_pawnSources_25 ?_
      obtain ⟨r8, h⟩ := h
      refine q_icmp_ne (tgt := 31) C r4 r8 (by decide) dX0_pawnSources_26 (fun b9 => ?_) (fun b9 => ?_)
      · have h := h.1 b9
        refine q_iload C 0 rfl dX0_pawnSources_31 ?_
        refine q_aload_n C 1 rfl rfl dX0_pawnSources_33 ?_
        refine q_get (v := .int (gI (M a0 0 (-1)))) C fX0_17 hk0 rfl dX0_pawnSources_34 (fun g10 => ?_)
        refine q_isub C dX0_pawnSources_37 ?_
        refine q_topi (fun v11 ev11 => ?_)
        have h := h v11 ev11
        refine q_istore (lv' := [(5, .int (gI v11)), (4, .int (gI v2)), (0, .ref (gad a0)), (1, .int (gI a1)), (2, .int (gI a2)), (3, .int (gI a3))]) C (by decide) rfl dX0_pawnSources_38 ?_
        refine q_iload C 0 rfl dX0_pawnSources_40 ?_
        refine q_aload_n C 2 rfl rfl dX0_pawnSources_42 ?_
        refine q_get (v := .int (gI (M a0 0 (-1)))) C fX0_17 hk0 rfl dX0_pawnSources_43 (fun g12 => ?_)
        obtain ⟨r13, h⟩ := h
        refine q_icmp_lt (tgt := 76) C r13 g1 (by decide) dX0_pawnSources_46 (fun b14 => ?_) (fun b14 => ?_)
        · have h := h.1 b14
          refine q_lv (lv' := [(4, .int (gI v2)), (5, .int (gI v11))]) [1, 0] rfl ?_
          exact t76  v2 v11 M h
        · have h := h.2 b14
          refine q_iload C 0 rfl dX0_pawnSources_49 ?_
          refine q_iconst C dX0_pawnSources_51 ?_
          refine q_aload_n C 2 rfl rfl dX0_pawnSources_52 ?_
          refine q_get (v := .int (gI (M a0 0 (-1)))) C fX0_17 hk0 rfl dX0_pawnSources_53 (fun g15 => ?_)
          refine q_imul C dX0_pawnSources_56 ?_
          obtain ⟨r16, h⟩ := h
          refine q_icmp_ge (tgt := 76) C r13 r16 (by decide) dX0_pawnSources_57 (fun b17 => ?_) (fun b17 => ?_)
          · have h := h.1 b17
            refine q_lv (lv' := [(4, .int (gI v2)), (5, .int (gI v11))]) [1, 0] rfl ?_
            exact t76  v2 v11 M h
          · have h := h.2 b17
            refine q_iload C 0 rfl dX0_pawnSources_60 ?_
            refine q_iload_n C 3 rfl rfl dX0_pawnSources_62 ?_
            refine q_icmp_eq (tgt := 76) C r13 r6 (by decide) dX0_pawnSources_63 (fun b18 => ?_) (fun b18 => ?_)
            · have h := h.1 b18
              refine q_lv (lv' := [(4, .int (gI v2)), (5, .int (gI v11))]) [1, 0] rfl ?_
              exact t76  v2 v11 M h
            · have h := h.2 b18
              refine q_iload C 0 rfl dX0_pawnSources_66 ?_
              refine q_iload_n C 4 rfl rfl dX0_pawnSources_68 ?_
              refine q_icmp_eq (tgt := 76) C r13 r8 (by decide) dX0_pawnSources_69 (fun b19 => ?_) (fun b19 => ?_)
              · have h := h.1 b19
                refine q_lv (lv' := [(4, .int (gI v2)), (5, .int (gI v11))]) [1, 0] rfl ?_
                exact t76  v2 v11 M h
              · have h := h.2 b19
                refine q_iconst C dX0_pawnSources_72 ?_
                refine q_goto (tgt := 77) C (by decide) dX0_pawnSources_73 ?_
                refine q_lv (lv' := [(4, .int (gI v2)), (5, .int (gI v11))]) [1, 0] rfl ?_
                exact t77  v2 v11 1 M h
      · have h := h.2 b9
        refine q_lconst (b := 0) C rfl dX0_pawnSources_29 ?_
        exact hret (0 : BitVec 64) M _ _ dX0_pawnSources_30 h
set_option maxHeartbeats 4000000 in
set_option maxRecDepth 100000 in
theorem mX5_cellAt (l : Launch) (D : va_G) (cy : Nat → ClassId) (kd : gKd) (ln : gLn) (rh : gRh) (post : Int → gM → Prop) (a0 : Int) (a1 : Int) (a2 : Int) (M : gM)  (h : wX5_cellAt kd ln post a0 a1 a2 M) : gMI l D cy yX5_cellAt cX5_cellAt 3 .int 0 0 [.int (gI a0), .int (gI a1), .int (gI a2)] kd ln rh M post := by
  refine gMI_of (own := RX5) (by decide) rfl (Nat.le_of_ble_eq_true rfl) ?_
  intro p e s m args below meth c A H0 Q C hret
  unfold wX5_cellAt at h
  refine q_iload_n C 0 rfl rfl dX5_cellAt_0 ?_
  refine q_bipush C (by decide) dX5_cellAt_1 ?_
  refine q_imul C dX5_cellAt_3 ?_
  refine q_bipush C (by decide) dX5_cellAt_4 ?_
  refine q_imul C dX5_cellAt_6 ?_
  refine q_iload_n C 1 rfl rfl dX5_cellAt_7 ?_
  refine q_iadd C dX5_cellAt_8 ?_
  refine q_iconst C dX5_cellAt_9 ?_
  refine q_imul C dX5_cellAt_10 ?_
  refine q_iload_n C 2 rfl rfl dX5_cellAt_11 ?_
  refine q_iadd C dX5_cellAt_12 ?_
  obtain ⟨r1, h⟩ := h
  exact hret (((((a0 * 8) * 8) + a1) * 2) + a2) M _ _ dX5_cellAt_13 r1 h
set_option maxHeartbeats 4000000 in
set_option maxRecDepth 100000 in
theorem mX2_cellOf (l : Launch) (D : va_G) (cy : Nat → ClassId) (kd : gKd) (ln : gLn) (rh : gRh) (post : Int → gM → Prop) (a0 : Int) (a1 : Int) (a2 : Int) (a3 : Int) (a4 : Int) (M : gM) (hk0 : kd a0 = 2) (h : wX2_cellOf kd ln post a0 a1 a2 a3 a4 M) : gMI l D cy yX2_cellOf cX2_cellOf 8 .int 1 22 [.ref (gad a0), .int (gI a1), .int (gI a2), .int (gI a3), .int (gI a4)] kd ln rh M post := by
  refine gMI_of (own := RX2) (by decide) rfl (Nat.le_of_ble_eq_true rfl) ?_
  intro p e s m args below meth c A H0 Q C hret
  have t76 : ∀ (y0 : Int) (y1 : Int) (M : gM), wX2_cellOf_76 kd ln post a0 a1 a2 a3 a4 y0 y1 M → gW p l e (gRm 1 22) s m args below meth c D cy A H0 Q 8 kd ln rh 0 0 M 76 [(4, .int (gI a4))] [.int (gI y0), .int (gI y1)] := by
    intro  y0 y1 M h
    unfold wX2_cellOf_76 at h
    refine q_iload C 0 rfl dX2_cellOf_76 ?_
    refine q_callSI (As := [.int (gI y1), .int (gI y0), .int (gI a4)]) (st := []) C vX2_55 kX5_cellAt ⟨Nat.le_of_ble_eq_true rfl, Nat.le_of_ble_eq_true rfl⟩ ⟨Nat.le_of_ble_eq_true rfl, Nat.le_of_ble_eq_true rfl⟩ rfl rfl (Nat.le_of_ble_eq_true rfl) (mX5_cellAt l D cy kd ln rh _ y1 y0 a4 M  h) dX2_cellOf_78 (fun c31 M30 g32 h => ?_)
    have h := h g32
    exact hret c31 M30 _ _ dX2_cellOf_81 g32 h
  unfold wX2_cellOf at h
  refine q_iload_n C 1 rfl rfl dX2_cellOf_0 ?_
  refine q_aload_n C 0 rfl rfl dX2_cellOf_1 ?_
  refine q_get (v := .int (gI (M a0 3 (-1)))) C fX2_15 hk0 rfl dX2_cellOf_2 (fun g1 => ?_)
  have h := h g1
  refine q_imul C dX2_cellOf_5 ?_
  refine q_iload_n C 2 rfl rfl dX2_cellOf_6 ?_
  refine q_iadd C dX2_cellOf_7 ?_
  refine q_topi (fun v2 ev2 => ?_)
  have h := h v2 ev2
  refine q_istore (lv' := [(5, .int (gI v2)), (0, .ref (gad a0)), (1, .int (gI a1)), (2, .int (gI a2)), (3, .int (gI a3)), (4, .int (gI a4))]) C (by decide) rfl dX2_cellOf_8 ?_
  refine q_aload_n C 1 rfl rfl dX2_cellOf_10 ?_
  obtain ⟨r3, h⟩ := h
  refine q_get (v := .ref (rh a0 5)) C fX2_23 hk0 (if_neg (Int.not_lt.mpr r3)) dX2_cellOf_11 (fun g4 => ?_)
  refine q_iload C 0 rfl dX2_cellOf_14 ?_
  obtain ⟨r5, h⟩ := h
  refine q_iald C hk0 rfl (fun _ q => q) r5 dX2_cellOf_16 (fun g6 => ?_)
  have h := h g6
  refine q_iconst C dX2_cellOf_17 ?_
  refine q_icmp_ne (tgt := 23) C g6 (show rng (-1) by decide) (by decide) dX2_cellOf_18 (fun b7 => ?_) (fun b7 => ?_)
  · have h := h.1 b7
    refine q_aload_n C 1 rfl rfl dX2_cellOf_23 ?_
    obtain ⟨r9, h⟩ := h
    obtain ⟨r10, h⟩ := h
    obtain ⟨r11, h⟩ := h
    refine q_get (v := .ref (rh (M a0 4 (-1)) 4)) C fX2_22 hk0 (if_neg r9) dX2_cellOf_24 (fun g8 => ?_)
    refine q_aload_n C 1 rfl rfl dX2_cellOf_27 ?_
    obtain ⟨r12, h⟩ := h
    refine q_get (v := .ref (rh a0 6)) C fX2_26 hk0 (if_neg (Int.not_lt.mpr r12)) dX2_cellOf_28 (fun g13 => ?_)
    refine q_iload C 0 rfl dX2_cellOf_31 ?_
    obtain ⟨r14, h⟩ := h
    refine q_iald C hk0 rfl (fun _ q => q) r14 dX2_cellOf_33 (fun g15 => ?_)
    have h := h g15
    refine q_iload_n C 4 rfl rfl dX2_cellOf_34 ?_
    refine q_iadd C dX2_cellOf_35 ?_
    obtain ⟨r16, h⟩ := h
    refine q_iald C r10 rfl (fun _ q => q) r16 dX2_cellOf_36 (fun g17 => ?_)
    have h := h g17
    refine q_topi (fun v18 ev18 => ?_)
    have h := h v18 ev18
    have gv18 : rng v18 := by rw [ev18]; exact g17
    refine q_istore (lv' := [(6, .int (gI v18)), (5, .int (gI v2)), (0, .ref (gad a0)), (1, .int (gI a1)), (2, .int (gI a2)), (3, .int (gI a3)), (4, .int (gI a4))]) C (by decide) rfl dX2_cellOf_37 ?_
    refine q_aload_n C 2 rfl rfl dX2_cellOf_39 ?_
    refine q_get (v := .ref (rh (M a0 4 (-1)) 4)) C fX2_22 hk0 (if_neg r9) dX2_cellOf_40 (fun g19 => ?_)
    refine q_aload_n C 2 rfl rfl dX2_cellOf_43 ?_
    obtain ⟨r20, h⟩ := h
    refine q_get (v := .ref (rh a0 7)) C fX2_29 hk0 (if_neg (Int.not_lt.mpr r20)) dX2_cellOf_44 (fun g21 => ?_)
    refine q_iload C 1 rfl dX2_cellOf_47 ?_
    obtain ⟨r22, h⟩ := h
    refine q_iald C hk0 rfl (fun _ q => q) r22 dX2_cellOf_49 (fun g23 => ?_)
    have h := h g23
    refine q_iload_n C 5 rfl rfl dX2_cellOf_50 ?_
    refine q_iadd C dX2_cellOf_51 ?_
    obtain ⟨r24, h⟩ := h
    refine q_iald C r10 rfl (fun _ q => q) r24 dX2_cellOf_52 (fun g25 => ?_)
    have h := h g25
    refine q_topi (fun v26 ev26 => ?_)
    have h := h v26 ev26
    have gv26 : rng v26 := by rw [ev26]; exact g25
    refine q_istore (lv' := [(7, .int (gI v26)), (6, .int (gI v18)), (5, .int (gI v2)), (0, .ref (gad a0)), (1, .int (gI a1)), (2, .int (gI a2)), (3, .int (gI a3)), (4, .int (gI a4))]) C (by decide) rfl dX2_cellOf_53 ?_
    refine q_aload_n C 3 rfl rfl dX2_cellOf_55 ?_
    refine q_get (v := .ref (rh a0 5)) C fX2_23 hk0 (if_neg (Int.not_lt.mpr r3)) dX2_cellOf_56 (fun g27 => ?_)
    refine q_iload C 2 rfl dX2_cellOf_59 ?_
    refine q_iald C hk0 rfl (fun _ q => q) r5 dX2_cellOf_61 (fun g28 => ?_)
    refine q_iload C 1 rfl dX2_cellOf_62 ?_
    refine q_iload C 0 rfl dX2_cellOf_64 ?_
    refine q_icmp_ge (tgt := 74) C gv18 gv26 (by decide) dX2_cellOf_66 (fun b29 => ?_) (fun b29 => ?_)
    · have h := h.1 b29
      refine q_iload C 0 rfl dX2_cellOf_74 ?_
      refine q_lv (lv' := [(4, .int (gI a4))]) [7] rfl ?_
      exact t76  v26 (M a0 5 v2) M h
    · have h := h.2 b29
      refine q_iload C 1 rfl dX2_cellOf_69 ?_
      refine q_goto (tgt := 76) C (by decide) dX2_cellOf_71 ?_
      refine q_lv (lv' := [(4, .int (gI a4))]) [7] rfl ?_
      exact t76  v18 (M a0 5 v2) M h
  · have h := h.2 b7
    refine q_iconst C dX2_cellOf_21 ?_
    exact hret (-1) M _ _ dX2_cellOf_22 (show rng (-1) by decide) h
set_option maxHeartbeats 4000000 in
set_option maxRecDepth 100000 in
theorem mX5_lay (l : Launch) (D : va_G) (cy : Nat → ClassId) (kd : gKd) (ln : gLn) (rh : gRh) (post : Int → gM → Prop) (a0 : Int) (a1 : Int) (M : gM) (hk0 : kd a0 = 5) (h : wX5_lay kd ln post a0 a1 M) : gMI l D cy yX5_lay cX5_lay 8 .int 3 72 [.ref (gad a0), .int (gI a1)] kd ln rh M post := by
  refine gMI_of (own := RX5) (by decide) rfl (Nat.le_of_ble_eq_true rfl) ?_
  intro p e s m args below meth c A H0 Q C hret
  have t143 : ∀ (k26 : Int → Int → Int → Int → gM → Prop), (∀ (x2 : Int), ∀ (x3 : Int), ∀ (x4 : Int), ∀ (x5 : Int), ∀ (M : gM), k26 x2 x3 x4 x5 M → gW p l e (gRm 3 72) s m args below meth c D cy A H0 Q 8 kd ln rh 0 0 M 26 [(0, .ref (gad a0)), (1, .int (gI a1)), (2, .int (gI x2)), (3, .int (gI x3)), (4, .int (gI x4)), (5, .int (gI x5))] []) → ∀ (x2 : Int) (x3 : Int) (x4 : Int) (x5 : Int) (M : gM), wX5_lay_143 kd ln post a0 a1 k26 x2 x3 x4 x5 M → gW p l e (gRm 3 72) s m args below meth c D cy A H0 Q 8 kd ln rh 0 0 M 143 [(0, .ref (gad a0)), (1, .int (gI a1)), (2, .int (gI x2)), (3, .int (gI x3)), (4, .int (gI x4)), (5, .int (gI x5))] [] := by
    intro k26 hk26_ x2 x3 x4 x5 M h
    unfold wX5_lay_143 at h
    refine q_iinc (lv' := [(5, .int (gI (x5 + 1))), (0, .ref (gad a0)), (1, .int (gI a1)), (2, .int (gI x2)), (3, .int (gI x3)), (4, .int (gI x4))]) C 5 rfl (by decide) rfl dX5_lay_143 ?_
    refine q_goto (tgt := 26) C (by decide) dX5_lay_146 ?_
    refine q_lv (lv' := [(0, .ref (gad a0)), (1, .int (gI a1)), (2, .int (gI x2)), (3, .int (gI x3)), (4, .int (gI x4)), (5, .int (gI (x5 + 1)))]) [1, 2, 3, 4, 5, 0] rfl ?_
    exact hk26_ x2 x3 x4 (x5 + 1) M h
  have t69 : ∀ (k26 : Int → Int → Int → Int → gM → Prop), (∀ (x2 : Int), ∀ (x3 : Int), ∀ (x4 : Int), ∀ (x5 : Int), ∀ (M : gM), k26 x2 x3 x4 x5 M → gW p l e (gRm 3 72) s m args below meth c D cy A H0 Q 8 kd ln rh 0 0 M 26 [(0, .ref (gad a0)), (1, .int (gI a1)), (2, .int (gI x2)), (3, .int (gI x3)), (4, .int (gI x4)), (5, .int (gI x5))] []) → ∀ (x2 : Int) (x3 : Int) (x4 : Int) (x5 : Int) (x6 : Int) (y0 : Int) (M : gM), wX5_lay_69 kd ln post a0 a1 k26 x2 x3 x4 x5 x6 y0 M → gW p l e (gRm 3 72) s m args below meth c D cy A H0 Q 8 kd ln rh 0 0 M 69 [(0, .ref (gad a0)), (1, .int (gI a1)), (2, .int (gI x2)), (3, .int (gI x3)), (4, .int (gI x4)), (5, .int (gI x5)), (6, .int (gI x6))] [.int (gI y0)] := by
    intro k26 hk26_ x2 x3 x4 x5 x6 y0 M h
    unfold wX5_lay_69 at h
    refine q_istore (lv' := [(7, .int (gI y0)), (0, .ref (gad a0)), (1, .int (gI a1)), (2, .int (gI x2)), (3, .int (gI x3)), (4, .int (gI x4)), (5, .int (gI x5)), (6, .int (gI x6))]) C (by decide) rfl dX5_lay_69 ?_
    refine q_iload C 0 rfl dX5_lay_71 ?_
    obtain ⟨r29, h⟩ := h
    refine q_if_eq (tgt := 143) C r29 (by decide) dX5_lay_73 (fun b30 => ?_) (fun b30 => ?_)
    · have h := h.1 b30
      refine q_lv (lv' := [(0, .ref (gad a0)), (1, .int (gI a1)), (2, .int (gI x2)), (3, .int (gI x3)), (4, .int (gI x4)), (5, .int (gI x5))]) [1, 2, 3, 4, 5, 6] rfl ?_
      exact t143 k26 hk26_ x2 x3 x4 x5 M h
    · have h := h.2 b30
      refine q_aload_n C 1 rfl rfl dX5_lay_76 ?_
      refine q_get (v := gR (M a0 8 (-1))) C fX5_27 hk0 rfl dX5_lay_77 (fun g31 => ?_)
      obtain ⟨r32, h⟩ := h
      refine q_nn r32 (by decide) ?_
      refine q_aload_n C 1 rfl rfl dX5_lay_80 ?_
      refine q_get (v := .int (gI (M a0 0 (-1)))) C fX5_31 hk0 rfl dX5_lay_81 (fun g33 => ?_)
      have h := h g33
      refine q_iload_n C 3 rfl rfl dX5_lay_84 ?_
      refine q_iload_n C 4 rfl rfl dX5_lay_85 ?_
      refine q_iload C 6 rfl dX5_lay_86 ?_
      refine q_iconst C dX5_lay_88 ?_
      refine q_callVI (As := [.int (gI (M a0 0 (-1))), .int (gI x2), .int (gI x3), .int (gI x5), .int (gI 1)]) (st := []) C vX5_80 kX0_allows ⟨Nat.le_of_ble_eq_true rfl, Nat.le_of_ble_eq_true rfl⟩ ⟨Nat.le_of_ble_eq_true rfl, Nat.le_of_ble_eq_true rfl⟩ rfl r32 ⟨_, _, rfl⟩ (by decide) rfl (Nat.le_of_ble_eq_true rfl) (mX0_allows l D cy kd ln rh _ (M a0 8 (-1)) (M a0 0 (-1)) x2 x3 x5 1 M r32 h) dX5_lay_89 (fun c35 M34 g36 h => ?_)
      have h := h g36
      refine q_if_ne (tgt := 98) C g36 (by decide) dX5_lay_92 (fun b37 => ?_) (fun b37 => ?_)
      · have h := h.1 b37
        refine q_aload_n C 1 rfl rfl dX5_lay_98 ?_
        obtain ⟨r38, h⟩ := h
        refine q_get (v := .ref (rh a0 1)) C fX5_44 hk0 (if_neg (Int.not_lt.mpr r38)) dX5_lay_99 (fun g39 => ?_)
        refine q_iload C 7 rfl dX5_lay_102 ?_
        refine q_iconst C dX5_lay_104 ?_
        obtain ⟨r40, h⟩ := h
        refine q_bast C hk0 rfl (rng8 (show (-128 : Int) ≤ (-1) ∧ ((-1) : Int) < 128 by decide)) (show (-128 : Int) ≤ (-1) ∧ ((-1) : Int) < 128 by decide) r40 dX5_lay_105 ?_
        refine q_iinc (lv' := [(4, .int (gI (x4 + 1))), (7, .int (gI y0)), (0, .ref (gad a0)), (1, .int (gI a1)), (2, .int (gI x2)), (3, .int (gI x3)), (5, .int (gI x5)), (6, .int (gI x6))]) C 5 rfl (by decide) rfl dX5_lay_106 ?_
        refine q_aload_n C 2 rfl rfl dX5_lay_109 ?_
        refine q_get (v := gR ((gu M34 a0 1 x6 (-1)) a0 8 (-1))) C fX5_27 hk0 rfl dX5_lay_110 (fun g41 => ?_)
        obtain ⟨r42, h⟩ := h
        refine q_nn r42 (by decide) ?_
        refine q_aload_n C 2 rfl rfl dX5_lay_113 ?_
        refine q_get (v := .int (gI ((gu M34 a0 1 x6 (-1)) a0 0 (-1)))) C fX5_31 hk0 rfl dX5_lay_114 (fun g43 => ?_)
        have h := h g43
        refine q_iload_n C 4 rfl rfl dX5_lay_117 ?_
        refine q_iload_n C 5 rfl rfl dX5_lay_118 ?_
        refine q_iload C 6 rfl dX5_lay_119 ?_
        refine q_callVI (As := [.int (gI ((gu M34 a0 1 x6 (-1)) a0 0 (-1))), .int (gI x2), .int (gI x3), .int (gI x5)]) (st := []) C vX5_84 kX0_attacks ⟨Nat.le_of_ble_eq_true rfl, Nat.le_of_ble_eq_true rfl⟩ ⟨Nat.le_of_ble_eq_true rfl, Nat.le_of_ble_eq_true rfl⟩ rfl r42 ⟨_, _, rfl⟩ (by decide) rfl (Nat.le_of_ble_eq_true rfl) (mX0_attacks l D cy kd ln rh _ ((gu M34 a0 1 x6 (-1)) a0 8 (-1)) ((gu M34 a0 1 x6 (-1)) a0 0 (-1)) x2 x3 x5 (gu M34 a0 1 x6 (-1)) r42 h) dX5_lay_121 (fun c45 M44 g46 h => ?_)
        have h := h g46
        refine q_if_ne (tgt := 143) C g46 (by decide) dX5_lay_124 (fun b47 => ?_) (fun b47 => ?_)
        · have h := h.1 b47
          refine q_lv (lv' := [(0, .ref (gad a0)), (1, .int (gI a1)), (2, .int (gI x2)), (3, .int (gI x3)), (4, .int (gI (x4 + 1))), (5, .int (gI x5))]) [2, 3, 4, 5, 0, 6] rfl ?_
          exact t143 k26 hk26_ x2 x3 (x4 + 1) x5 M44 h
        · have h := h.2 b47
          refine q_aload_n C 2 rfl rfl dX5_lay_127 ?_
          refine q_get (v := .ref (rh a0 1)) C fX5_44 hk0 (if_neg (Int.not_lt.mpr r38)) dX5_lay_128 (fun g48 => ?_)
          refine q_iload_n C 3 rfl rfl dX5_lay_131 ?_
          refine q_iload C 6 rfl dX5_lay_132 ?_
          refine q_iconst C dX5_lay_134 ?_
          refine q_callSI (As := [.int (gI a1), .int (gI x5), .int (gI 0)]) (st := [.ref (rh a0 1)]) C vX5_72 kX5_cellAt ⟨Nat.le_of_ble_eq_true rfl, Nat.le_of_ble_eq_true rfl⟩ ⟨Nat.le_of_ble_eq_true rfl, Nat.le_of_ble_eq_true rfl⟩ rfl rfl (Nat.le_of_ble_eq_true rfl) (mX5_cellAt l D cy kd ln rh _ a1 x5 0 M44  h) dX5_lay_135 (fun c50 M49 g51 h => ?_)
          have h := h g51
          refine q_iconst C dX5_lay_138 ?_
          obtain ⟨r52, h⟩ := h
          refine q_bast C hk0 rfl (rng8 (show (-128 : Int) ≤ (-1) ∧ ((-1) : Int) < 128 by decide)) (show (-128 : Int) ≤ (-1) ∧ ((-1) : Int) < 128 by decide) r52 dX5_lay_139 ?_
          refine q_iinc (lv' := [(4, .int (gI ((x4 + 1) + 1))), (7, .int (gI y0)), (0, .ref (gad a0)), (1, .int (gI a1)), (2, .int (gI x2)), (3, .int (gI x3)), (5, .int (gI x5)), (6, .int (gI x6))]) C 0 rfl (by decide) rfl dX5_lay_140 ?_
          refine q_lv (lv' := [(0, .ref (gad a0)), (1, .int (gI a1)), (2, .int (gI x2)), (3, .int (gI x3)), (4, .int (gI ((x4 + 1) + 1))), (5, .int (gI x5))]) [2, 3, 4, 5, 0, 6] rfl ?_
          exact t143 k26 hk26_ x2 x3 ((x4 + 1) + 1) x5 (gu M49 a0 1 c50 (-1)) h
      · have h := h.2 b37
        refine q_goto (tgt := 143) C (by decide) dX5_lay_95 ?_
        refine q_lv (lv' := [(0, .ref (gad a0)), (1, .int (gI a1)), (2, .int (gI x2)), (3, .int (gI x3)), (4, .int (gI x4)), (5, .int (gI x5))]) [1, 2, 3, 4, 5, 6] rfl ?_
        exact t143 k26 hk26_ x2 x3 x4 x5 M34 h
  have t26 : ∀ (n : Nat) (x2 : Int) (x3 : Int) (x4 : Int) (x5 : Int) (M : gM), wX5_lay_26 kd ln post a0 a1 n x2 x3 x4 x5 M → gW p l e (gRm 3 72) s m args below meth c D cy A H0 Q 8 kd ln rh 0 0 M 26 [(0, .ref (gad a0)), (1, .int (gI a1)), (2, .int (gI x2)), (3, .int (gI x3)), (4, .int (gI x4)), (5, .int (gI x5))] [] := by
    intro n
    induction n with
    | zero => intro x2 x3 x4 x5 M h; exact absurd h (by simp [wX5_lay_26])
    | succ n ih =>
      intro x2 x3 x4 x5 M h
      have hk26_ := ih
      rw [wX5_lay_26] at h
      refine q_iload C 5 rfl dX5_lay_26 ?_
      refine q_aload_n C 0 rfl rfl dX5_lay_28 ?_
      refine q_get (v := gR (M a0 8 (-1))) C fX5_27 hk0 rfl dX5_lay_29 (fun g14 => ?_)
      obtain ⟨r15, h⟩ := h
      refine q_nn r15 (by decide) ?_
      refine q_get (v := .int (gI (M (M a0 8 (-1)) 1 (-1)))) C fX5_67 r15 rfl dX5_lay_32 (fun g16 => ?_)
      have h := h g16
      obtain ⟨r17, h⟩ := h
      refine q_icmp_ge (tgt := 149) C r17 g16 (by decide) dX5_lay_35 (fun b18 => ?_) (fun b18 => ?_)
      · have h := h.1 b18
        refine q_iload C 4 rfl dX5_lay_149 ?_
        obtain ⟨r19, h⟩ := h
        exact hret x4 M _ _ dX5_lay_151 r19 h
      · have h := h.2 b18
        refine q_iload_n C 1 rfl rfl dX5_lay_38 ?_
        refine q_iload C 5 rfl dX5_lay_39 ?_
        refine q_iconst C dX5_lay_41 ?_
        refine q_callSI (As := [.int (gI a1), .int (gI x5), .int (gI 1)]) (st := []) C vX5_72 kX5_cellAt ⟨Nat.le_of_ble_eq_true rfl, Nat.le_of_ble_eq_true rfl⟩ ⟨Nat.le_of_ble_eq_true rfl, Nat.le_of_ble_eq_true rfl⟩ rfl rfl (Nat.le_of_ble_eq_true rfl) (mX5_cellAt l D cy kd ln rh _ a1 x5 1 M  h) dX5_lay_42 (fun c21 M20 g22 h => ?_)
        have h := h g22
        refine q_istore (lv' := [(6, .int (gI c21)), (0, .ref (gad a0)), (1, .int (gI a1)), (2, .int (gI x2)), (3, .int (gI x3)), (4, .int (gI x4)), (5, .int (gI x5))]) C (by decide) rfl dX5_lay_45 ?_
        refine q_aload_n C 1 rfl rfl dX5_lay_47 ?_
        refine q_get (v := gR (M20 a0 2 (-1))) C fX5_35 hk0 rfl dX5_lay_48 (fun g23 => ?_)
        obtain ⟨r24, h⟩ := h
        refine q_nn r24 (by decide) ?_
        refine q_iload_n C 3 rfl rfl dX5_lay_51 ?_
        refine q_iload_n C 4 rfl rfl dX5_lay_52 ?_
        refine q_iload C 6 rfl dX5_lay_53 ?_
        refine q_iconst C dX5_lay_55 ?_
        refine q_callVI (As := [.int (gI x2), .int (gI x3), .int (gI x5), .int (gI 1)]) (st := []) C vX5_76 kX2_cellOf ⟨Nat.le_of_ble_eq_true rfl, Nat.le_of_ble_eq_true rfl⟩ ⟨Nat.le_of_ble_eq_true rfl, Nat.le_of_ble_eq_true rfl⟩ rfl r24 ⟨_, _, rfl⟩ (by decide) rfl (Nat.le_of_ble_eq_true rfl) (mX2_cellOf l D cy kd ln rh _ (M20 a0 2 (-1)) x2 x3 x5 1 M20 r24 h) dX5_lay_56 (fun c26 M25 g27 h => ?_)
        have h := h g27
        refine q_iload C 0 rfl dX5_lay_59 ?_
        refine q_icmp_ne (tgt := 68) C g27 g22 (by decide) dX5_lay_61 (fun b28 => ?_) (fun b28 => ?_)
        · have h := h.1 b28
          refine q_iconst C dX5_lay_68 ?_
          refine q_lv (lv' := [(0, .ref (gad a0)), (1, .int (gI a1)), (2, .int (gI x2)), (3, .int (gI x3)), (4, .int (gI x4)), (5, .int (gI x5)), (6, .int (gI c21))]) [1, 2, 3, 4, 5, 6, 0] rfl ?_
          exact t69 (wX5_lay_26 kd ln post a0 a1 n) hk26_ x2 x3 x4 x5 c21 0 M25 h
        · have h := h.2 b28
          refine q_iconst C dX5_lay_64 ?_
          refine q_goto (tgt := 69) C (by decide) dX5_lay_65 ?_
          refine q_lv (lv' := [(0, .ref (gad a0)), (1, .int (gI a1)), (2, .int (gI x2)), (3, .int (gI x3)), (4, .int (gI x4)), (5, .int (gI x5)), (6, .int (gI c21))]) [1, 2, 3, 4, 5, 6, 0] rfl ?_
          exact t69 (wX5_lay_26 kd ln post a0 a1 n) hk26_ x2 x3 x4 x5 c21 1 M25 h
  unfold wX5_lay at h
  refine q_aload_n C 0 rfl rfl dX5_lay_0 ?_
  refine q_get (v := gR (M a0 2 (-1))) C fX5_35 hk0 rfl dX5_lay_1 (fun g1 => ?_)
  obtain ⟨r2, h⟩ := h
  refine q_nn r2 (by decide) ?_
  obtain ⟨r3, h⟩ := h
  refine q_get (v := .ref (rh (M a0 2 (-1)) 1)) C fX5_61 r2 (if_neg (Int.not_lt.mpr r3)) dX5_lay_4 (fun g4 => ?_)
  refine q_iload_n C 1 rfl rfl dX5_lay_7 ?_
  obtain ⟨r5, h⟩ := h
  refine q_iald C r2 rfl (fun _ q => q) r5 dX5_lay_8 (fun g6 => ?_)
  have h := h g6
  refine q_topi (fun v7 ev7 => ?_)
  have h := h v7 ev7
  have gv7 : rng v7 := by rw [ev7]; exact g6
  refine q_istore_n (lv' := [(2, .int (gI v7)), (0, .ref (gad a0)), (1, .int (gI a1))]) C rfl (by decide) rfl dX5_lay_9 ?_
  refine q_aload_n C 1 rfl rfl dX5_lay_10 ?_
  refine q_get (v := gR (M a0 2 (-1))) C fX5_35 hk0 rfl dX5_lay_11 (fun g8 => ?_)
  refine q_nn r2 (by decide) ?_
  obtain ⟨r9, h⟩ := h
  refine q_get (v := .ref (rh (M a0 2 (-1)) 2)) C fX5_64 r2 (if_neg (Int.not_lt.mpr r9)) dX5_lay_14 (fun g10 => ?_)
  refine q_iload_n C 2 rfl rfl dX5_lay_17 ?_
  obtain ⟨r11, h⟩ := h
  refine q_iald C r2 rfl (fun _ q => q) r11 dX5_lay_18 (fun g12 => ?_)
  have h := h g12
  refine q_topi (fun v13 ev13 => ?_)
  have h := h v13 ev13
  have gv13 : rng v13 := by rw [ev13]; exact g12
  refine q_istore_n (lv' := [(3, .int (gI v13)), (2, .int (gI v7)), (0, .ref (gad a0)), (1, .int (gI a1))]) C rfl (by decide) rfl dX5_lay_19 ?_
  refine q_iconst C dX5_lay_20 ?_
  refine q_istore (lv' := [(4, .int (gI 0)), (3, .int (gI v13)), (2, .int (gI v7)), (0, .ref (gad a0)), (1, .int (gI a1))]) C (by decide) rfl dX5_lay_21 ?_
  refine q_iconst C dX5_lay_23 ?_
  refine q_istore (lv' := [(5, .int (gI 0)), (4, .int (gI 0)), (3, .int (gI v13)), (2, .int (gI v7)), (0, .ref (gad a0)), (1, .int (gI a1))]) C (by decide) rfl dX5_lay_24 ?_
  refine q_lv (lv' := [(0, .ref (gad a0)), (1, .int (gI a1)), (2, .int (gI v7)), (3, .int (gI v13)), (4, .int (gI 0)), (5, .int (gI 0))]) [4, 5, 3, 2, 1, 0] rfl ?_
  obtain ⟨j26, h⟩ := h
  exact t26  j26 v7 v13 0 0 M h
set_option maxHeartbeats 4000000 in
set_option maxRecDepth 100000 in
theorem mX5_size (l : Launch) (D : va_G) (cy : Nat → ClassId) (kd : gKd) (ln : gLn) (rh : gRh) (post : Int → gM → Prop) (a0 : Int) (M : gM) (hk0 : kd a0 = 5) (h : wX5_size kd ln post a0 M) : gMI l D cy yX5_size cX5_size 1 .int 0 0 [.ref (gad a0)] kd ln rh M post := by
  refine gMI_of (own := RX5) (by decide) rfl (Nat.le_of_ble_eq_true rfl) ?_
  intro p e s m args below meth c A H0 Q C hret
  unfold wX5_size at h
  refine q_aload_n C 0 rfl rfl dX5_size_0 ?_
  obtain ⟨r1, h⟩ := h
  refine q_get (v := .ref (rh a0 9)) C fX5_54 hk0 (if_neg (Int.not_lt.mpr r1)) dX5_size_1 (fun g2 => ?_)
  refine q_aload_n C 0 rfl rfl dX5_size_4 ?_
  refine q_get (v := gR (M a0 2 (-1))) C fX5_35 hk0 rfl dX5_size_5 (fun g3 => ?_)
  obtain ⟨r4, h⟩ := h
  refine q_nn r4 (by decide) ?_
  refine q_get (v := .int (gI (M (M a0 2 (-1)) 0 (-1)))) C fX5_39 r4 rfl dX5_size_8 (fun g5 => ?_)
  have h := h g5
  obtain ⟨r6, h⟩ := h
  refine q_iald C hk0 rfl (fun _ q => q) r6 dX5_size_11 (fun g7 => ?_)
  have h := h g7
  exact hret (M a0 9 (M (M a0 2 (-1)) 0 (-1))) M _ _ dX5_size_12 g7 h
set_option maxHeartbeats 4000000 in
set_option maxRecDepth 100000 in
theorem mX3_init (l : Launch) (D : va_G) (cy : Nat → ClassId) (mc ms : Nat) (kd : gKd) (ln : gLn) (rh : gRh) (post : gKd → gLn → gM → Prop) (a0 : Int) (a1 : Int) (a2 : Int) (M : gM) (hk0 : kd a0 = 3) (hk1 : kd a1 = 0) (hk2 : kd a2 = 5) (h : wX3_init mc ms kd ln post a0 a1 a2 M) : gXV l D cy yX3_init cX3_init 4 1 32 mc ms [.ref (gad a0), .ref (gad a1), .ref (gad a2)] kd ln rh M post := by
  refine gXV_of (own := RX3) (by decide) rfl (Nat.le_of_ble_eq_true rfl) ?_
  intro p e s m args below meth c A H0 Q C hin hret
  have t80 : ∀ (kd_ : gKd) (ln_ : gLn) (rh_ : gRh) (c_ s_ : Nat) (kp_ : gKp kd ln rh kd_ ln_ rh_) (y0 : Int) (M : gM), wX3_init_80 mc ms post a0 a1 a2 kd_ ln_ c_ s_ y0 M → gW p l e (gRx 1 32 mc ms) s m args below meth c D cy A H0 Q 4 kd_ ln_ rh_ c_ s_ M 80 [(0, .ref (gad a0))] [.int (gI y0)] := by
    intro  kd_ ln_ rh_ c_ s_ kp_ y0 M h
    unfold wX3_init_80 at h
    obtain ⟨r33, h⟩ := h
    refine q_istore_n (lv' := [(3, .int (gI y0)), (0, .ref (gad a0))]) C rfl (by decide) rfl dX3_init_80 ?_
    refine q_aload_n C 1 rfl rfl dX3_init_81 ?_
    refine q_iload_n C 0 rfl rfl dX3_init_82 ?_
    obtain ⟨r34, h⟩ := h
    obtain ⟨r35, h⟩ := h
    obtain ⟨r36, h⟩ := h
    refine q_newput (t0 := 0) (ty := .int) C hin fX3_56 (fun _ _ _ q => by cases q; rfl) (gKp_k kp_ hk0 (by decide)) rfl rfl ac8 rfl (fun _ => rfl) (fun _ _ _ => rfl) (fun _ _ _ q => by cases q; rfl) r34 r35 (by decide) r36.1 r36.2 dX3_init_83 dX3_init_85 (fun ln37 rh38 e39 kn40 => ?_)
    have h := h ln37 e39
    have kp41 := gKp_t kp_ kn40
    refine q_aload_n C 1 rfl rfl dX3_init_88 ?_
    refine q_iload_n C 0 rfl rfl dX3_init_89 ?_
    obtain ⟨r42, h⟩ := h
    obtain ⟨r43, h⟩ := h
    refine q_newput (t0 := 0) (ty := .int) C hin fX3_59 (fun _ _ _ q => by cases q; rfl) (gKp_k kn40 (gKp_k kp_ hk0 (by decide)) (by decide)) rfl rfl ac8 rfl (fun _ => rfl) (fun _ _ _ => rfl) (fun _ _ _ q => by cases q; rfl) r42 r35 (by decide) r43.1 r43.2 dX3_init_90 dX3_init_92 (fun ln44 rh45 e46 kn47 => ?_)
    have h := h ln44 e46
    have kp48 := gKp_t kp41 kn47
    refine q_aload_n C 1 rfl rfl dX3_init_95 ?_
    obtain ⟨r49, h⟩ := h
    refine q_get (v := .ref (rh45 a0 7)) C fX3_9 (gKp_k kn47 (gKp_k kn40 (gKp_k kp_ hk0 (by decide)) (by decide)) (by decide)) (if_neg (Int.not_lt.mpr r49)) dX3_init_96 (fun g50 => ?_)
    refine q_iconst C dX3_init_99 ?_
    refine q_callSV (As := [.ref (rh45 a0 7), .int (gI (-1))]) (st := []) C vX3_62 kJ7_fill_53178 r43 ⟨Nat.le_of_ble_eq_true rfl, Nat.le_of_ble_eq_true rfl⟩ rfl rfl (Nat.le_of_ble_eq_true rfl) (mJ7_fill_53178 l D cy kd_ ln44 rh45 _ a0 7 (-1) (gza (gza M a0 8) a0 9) (by rw [(gKp_k kn47 (gKp_k kn40 (gKp_k kp_ hk0 (by decide)) (by decide)) (by decide))]; rfl) (fun _ q => by rw [(gKp_k kn47 (gKp_k kn40 (gKp_k kp_ hk0 (by decide)) (by decide)) (by decide))]; exact q) h) dX3_init_100 (fun M51 h => ?_)
    exact hret kd_ ln44 rh45 M51 _ _ _ _ r43.1 r43.2 kp48 dX3_init_103 h
  unfold wX3_init at h
  refine q_aload_n C 0 rfl rfl dX3_init_0 ?_
  refine q_objInit (o := a0) C obX3_3 (Nat.le_of_ble_eq_true rfl) (Nat.le_of_ble_eq_true rfl) dX3_init_1 ?_
  refine q_aload_n C 0 rfl rfl dX3_init_4 ?_
  refine q_bipush C (by decide) dX3_init_5 ?_
  obtain ⟨r1, h⟩ := h
  obtain ⟨r2, h⟩ := h
  refine q_newput (t0 := 0) (ty := .int) C hin fX3_9 (fun _ _ _ q => by cases q; rfl) hk0 rfl rfl ac8 rfl (fun _ => rfl) (fun _ _ _ => rfl) (fun _ _ _ q => by cases q; rfl) r1 (show 0 ≤ (127 : Int) ∧ (127 : Int) ≤ 67108864 by decide) (by decide) r2.1 r2.2 dX3_init_7 dX3_init_9 (fun ln3 rh4 e5 kn6 => ?_)
  have h := h ln3 e5
  have kp7 := gKp_t gKp_r kn6
  refine q_aload_n C 0 rfl rfl dX3_init_12 ?_
  refine q_aload_n C 1 rfl rfl dX3_init_13 ?_
  obtain ⟨r8, h⟩ := h
  refine q_putF (x := a1) (v := .ref (gad a1)) (ty := .object RX0) C hin fX3_15 (fun _ _ _ q => by cases q; rfl) (gKp_k kn6 hk0 (by decide)) (fun _ _ _ q => by cases q; rfl) (gfo_put rfl r8) rfl rfl (Int.le_of_lt r8) (fun j q => absurd (show (1 : Nat) = j + 3 from q) (by omega)) dX3_init_14 ?_
  refine q_aload_n C 0 rfl rfl dX3_init_17 ?_
  refine q_aload_n C 2 rfl rfl dX3_init_18 ?_
  obtain ⟨r9, h⟩ := h
  refine q_putF (x := a2) (v := .ref (gad a2)) (ty := .object RX5) C hin fX3_19 (fun _ _ _ q => by cases q; rfl) (gKp_k kn6 hk0 (by decide)) (fun _ _ _ q => by cases q; rfl) (gfo_put rfl r9) rfl rfl (Int.le_of_lt r9) (fun j q => absurd (show (1 : Nat) = j + 3 from q) (by omega)) dX3_init_19 ?_
  refine q_aload_n C 0 rfl rfl dX3_init_22 ?_
  refine q_aload_n C 2 rfl rfl dX3_init_23 ?_
  refine q_get (v := gR ((gu (gu (gza M a0 7) a0 0 (-1) a1) a0 1 (-1) a2) a2 2 (-1))) C fX3_23 (gKp_k kn6 hk2 (by decide)) rfl dX3_init_24 (fun g10 => ?_)
  obtain ⟨r11, h⟩ := h
  refine q_nn r11 (by decide) ?_
  obtain ⟨r12, h⟩ := h
  refine q_putF (x := ((gu (gu (gza M a0 7) a0 0 (-1) a1) a0 1 (-1) a2) a2 2 (-1))) (v := .ref (gad ((gu (gu (gza M a0 7) a0 0 (-1) a1) a0 1 (-1) a2) a2 2 (-1)))) (ty := .object RX2) C hin fX3_29 (fun _ _ _ q => by cases q; rfl) (gKp_k kn6 hk0 (by decide)) (fun _ _ _ q => by cases q; rfl) (gfo_put rfl r12) rfl rfl (Int.le_of_lt r12) (fun j q => absurd (show (1 : Nat) = j + 3 from q) (by omega)) dX3_init_27 ?_
  refine q_aload_n C 0 rfl rfl dX3_init_30 ?_
  refine q_aload_n C 2 rfl rfl dX3_init_31 ?_
  obtain ⟨r13, h⟩ := h
  refine q_get (v := .ref (rh4 a2 1)) C fX3_30 (gKp_k kn6 hk2 (by decide)) (if_neg (Int.not_lt.mpr r13)) dX3_init_32 (fun g14 => ?_)
  refine q_putF (x := a2) (v := .ref (rh4 a2 1)) (ty := .array .byte) C hin fX3_34 (fun _ _ _ q => by cases q; rfl) (gKp_k kn6 hk0 (by decide)) (fun _ _ _ q => by cases q; rfl) (gfa_put (j := 1) rfl r9) rfl rfl (Int.le_of_lt r9) (fun j q _ => gfa_al (j0 := 1) q r13) dX3_init_35 ?_
  refine q_aload_n C 0 rfl rfl dX3_init_38 ?_
  refine q_aload_n C 2 rfl rfl dX3_init_39 ?_
  refine q_get (v := .int (gI ((gu (gu (gu (gu (gza M a0 7) a0 0 (-1) a1) a0 1 (-1) a2) a0 2 (-1) ((gu (gu (gza M a0 7) a0 0 (-1) a1) a0 1 (-1) a2) a2 2 (-1))) a0 3 (-1) a2) a2 0 (-1)))) C fX3_35 (gKp_k kn6 hk2 (by decide)) rfl dX3_init_40 (fun g15 => ?_)
  have h := h g15
  refine q_putF (x := ((gu (gu (gu (gu (gza M a0 7) a0 0 (-1) a1) a0 1 (-1) a2) a0 2 (-1) ((gu (gu (gza M a0 7) a0 0 (-1) a1) a0 1 (-1) a2) a2 2 (-1))) a0 3 (-1) a2) a2 0 (-1))) (ty := .int) C hin fX3_39 (fun _ _ _ q => by cases q; rfl) (gKp_k kn6 hk0 (by decide)) (fun _ _ _ q => by cases q; rfl) (congrArg (fun z => Value.int (gI z)) gu_s) rfl rfl g15 (fun j q => absurd (show (0 : Nat) = j + 3 from q) (by omega)) dX3_init_43 ?_
  refine q_aload_n C 0 rfl rfl dX3_init_46 ?_
  refine q_aload_n C 2 rfl rfl dX3_init_47 ?_
  refine q_callVI (As := []) (st := [.ref (gad a0)]) C vX3_40 kX5_size r2 ⟨Nat.le_of_ble_eq_true rfl, Nat.le_of_ble_eq_true rfl⟩ rfl (gKp_k kn6 hk2 (by decide)) ⟨_, _, rfl⟩ (by decide) rfl (Nat.le_of_ble_eq_true rfl) (mX5_size l D cy kd ln3 rh4 _ a2 (gu (gu (gu (gu (gu (gza M a0 7) a0 0 (-1) a1) a0 1 (-1) a2) a0 2 (-1) ((gu (gu (gza M a0 7) a0 0 (-1) a1) a0 1 (-1) a2) a2 2 (-1))) a0 3 (-1) a2) a0 4 (-1) ((gu (gu (gu (gu (gza M a0 7) a0 0 (-1) a1) a0 1 (-1) a2) a0 2 (-1) ((gu (gu (gza M a0 7) a0 0 (-1) a1) a0 1 (-1) a2) a2 2 (-1))) a0 3 (-1) a2) a2 0 (-1))) (gKp_k kn6 hk2 (by decide)) h) dX3_init_48 (fun c17 M16 g18 h => ?_)
  have h := h g18
  obtain ⟨r19, h⟩ := h
  obtain ⟨r20, h⟩ := h
  obtain ⟨r21, h⟩ := h
  refine q_newput (t0 := 0) (ty := .int) C hin fX3_44 (fun _ _ _ q => by cases q; rfl) (gKp_k kn6 hk0 (by decide)) rfl rfl ac8 rfl (fun _ => rfl) (fun _ _ _ => rfl) (fun _ _ _ q => by cases q; rfl) r19 r20 (by decide) r21.1 r21.2 dX3_init_51 dX3_init_53 (fun ln22 rh23 e24 kn25 => ?_)
  have h := h ln22 e24
  have kp26 := gKp_t kp7 kn25
  refine q_aload_n C 0 rfl rfl dX3_init_56 ?_
  refine q_get (v := .int (gI ((gza M16 a0 5) a0 4 (-1)))) C fX3_39 (gKp_k kn25 (gKp_k kn6 hk0 (by decide)) (by decide)) rfl dX3_init_57 (fun g27 => ?_)
  have h := h g27
  refine q_iconst C dX3_init_60 ?_
  refine q_icmp_ne (tgt := 79) C g27 (show rng 2 by decide) (by decide) dX3_init_61 (fun b28 => ?_) (fun b28 => ?_)
  · have h := h.1 b28
    refine q_iconst C dX3_init_79 ?_
    refine q_lv (lv' := [(0, .ref (gad a0))]) [0] rfl ?_
    exact t80  kd ln22 rh23 (0 + 1 + 1) (0 + Int.toNat 127 + Int.toNat c17) kp26 0 (gza M16 a0 5) h
  · have h := h.2 b28
    refine q_aload_n C 0 rfl rfl dX3_init_64 ?_
    refine q_get (v := gR ((gza M16 a0 5) a0 2 (-1))) C fX3_29 (gKp_k kn25 (gKp_k kn6 hk0 (by decide)) (by decide)) rfl dX3_init_65 (fun g29 => ?_)
    obtain ⟨r30, h⟩ := h
    refine q_nn r30 (by decide) ?_
    refine q_get (v := .int (gI ((gza M16 a0 5) ((gza M16 a0 5) a0 2 (-1)) 0 (-1)))) C fX3_47 r30 rfl dX3_init_68 (fun g31 => ?_)
    have h := h g31
    refine q_aload_n C 1 rfl rfl dX3_init_71 ?_
    refine q_get (v := .int (gI ((gza M16 a0 5) a1 0 (-1)))) C fX3_51 (gKp_k kn25 (gKp_k kn6 hk1 (by decide)) (by decide)) rfl dX3_init_72 (fun g32 => ?_)
    have h := h g32
    refine q_imul C dX3_init_75 ?_
    refine q_goto (tgt := 80) C (by decide) dX3_init_76 ?_
    refine q_lv (lv' := [(0, .ref (gad a0))]) [0] rfl ?_
    exact t80  kd ln22 rh23 (0 + 1 + 1) (0 + Int.toNat 127 + Int.toNat c17) kp26 (((gza M16 a0 5) ((gza M16 a0 5) a0 2 (-1)) 0 (-1)) * ((gza M16 a0 5) a1 0 (-1))) (gza M16 a0 5) h
set_option maxHeartbeats 4000000 in
set_option maxRecDepth 100000 in
theorem mX5_pairOf (l : Launch) (D : va_G) (cy : Nat → ClassId) (kd : gKd) (ln : gLn) (rh : gRh) (post : Int → gM → Prop) (a0 : Int) (M : gM)  (h : wX5_pairOf kd ln post a0 M) : gMI l D cy yX5_pairOf cX5_pairOf 1 .int 0 0 [.int (gI a0)] kd ln rh M post := by
  refine gMI_of (own := RX5) (by decide) rfl (Nat.le_of_ble_eq_true rfl) ?_
  intro p e s m args below meth c A H0 Q C hret
  unfold wX5_pairOf at h
  refine q_iload_n C 0 rfl rfl dX5_pairOf_0 ?_
  refine q_sipush C (by decide) dX5_pairOf_1 ?_
  obtain ⟨r1, h⟩ := h
  refine q_idiv C ⟨r1.1, r1.2, by decide, by decide⟩ dX5_pairOf_4 ?_
  obtain ⟨r2, h⟩ := h
  exact hret (a0 / 128) M _ _ dX5_pairOf_5 r2 h
set_option maxHeartbeats 4000000 in
set_option maxRecDepth 100000 in
theorem mX5_manOf (l : Launch) (D : va_G) (cy : Nat → ClassId) (kd : gKd) (ln : gLn) (rh : gRh) (post : Int → gM → Prop) (a0 : Int) (M : gM)  (h : wX5_manOf kd ln post a0 M) : gMI l D cy yX5_manOf cX5_manOf 1 .int 0 0 [.int (gI a0)] kd ln rh M post := by
  refine gMI_of (own := RX5) (by decide) rfl (Nat.le_of_ble_eq_true rfl) ?_
  intro p e s m args below meth c A H0 Q C hret
  unfold wX5_manOf at h
  refine q_iload_n C 0 rfl rfl dX5_manOf_0 ?_
  refine q_sipush C (by decide) dX5_manOf_1 ?_
  obtain ⟨r1, h⟩ := h
  refine q_irem C ⟨r1.1, r1.2, by decide, by decide⟩ dX5_manOf_4 ?_
  refine q_iconst C dX5_manOf_5 ?_
  obtain ⟨r2, h⟩ := h
  refine q_idiv C ⟨r2.1, r2.2, by decide, by decide⟩ dX5_manOf_6 ?_
  obtain ⟨r3, h⟩ := h
  exact hret ((a0 % 128) / 2) M _ _ dX5_manOf_7 r3 h
set_option maxHeartbeats 4000000 in
set_option maxRecDepth 100000 in
theorem mX3_isMate (l : Launch) (D : va_G) (cy : Nat → ClassId) (kd : gKd) (ln : gLn) (rh : gRh) (post : Int → gM → Prop) (a0 : Int) (a1 : Int) (M : gM) (hk0 : kd a0 = 3) (h : wX3_isMate kd ln post a0 a1 M) : gMI l D cy yX3_isMate cX3_isMate 5 .boolean 2 47 [.ref (gad a0), .int (gI a1)] kd ln rh M post := by
  refine gMI_ofZ (own := RX3) (by decide) rfl (Nat.le_of_ble_eq_true rfl) ?_
  intro p e s m args below meth c A H0 Q C hret
  unfold wX3_isMate at h
  refine q_aload_n C 0 rfl rfl dX3_isMate_0 ?_
  refine q_get (v := gR (M a0 2 (-1))) C fX3_29 hk0 rfl dX3_isMate_1 (fun g1 => ?_)
  obtain ⟨r2, h⟩ := h
  refine q_nn r2 (by decide) ?_
  obtain ⟨r3, h⟩ := h
  refine q_get (v := .ref (rh (M a0 2 (-1)) 1)) C fX3_93 r2 (if_neg (Int.not_lt.mpr r3)) dX3_isMate_4 (fun g4 => ?_)
  refine q_iload_n C 1 rfl rfl dX3_isMate_7 ?_
  refine q_callSI (As := [.int (gI a1)]) (st := [.ref (rh (M a0 2 (-1)) 1)]) C vX3_96 kX5_pairOf ⟨Nat.le_of_ble_eq_true rfl, Nat.le_of_ble_eq_true rfl⟩ ⟨Nat.le_of_ble_eq_true rfl, Nat.le_of_ble_eq_true rfl⟩ rfl rfl (Nat.le_of_ble_eq_true rfl) (mX5_pairOf l D cy kd ln rh _ a1 M  h) dX3_isMate_8 (fun c6 M5 g7 h => ?_)
  have h := h g7
  obtain ⟨r8, h⟩ := h
  refine q_iald C r2 rfl (fun _ q => q) r8 dX3_isMate_11 (fun g9 => ?_)
  have h := h g9
  refine q_topi (fun v10 ev10 => ?_)
  have h := h v10 ev10
  have gv10 : rng v10 := by rw [ev10]; exact g9
  refine q_istore_n (lv' := [(2, .int (gI v10)), (0, .ref (gad a0)), (1, .int (gI a1))]) C rfl (by decide) rfl dX3_isMate_12 ?_
  refine q_aload_n C 1 rfl rfl dX3_isMate_13 ?_
  refine q_get (v := gR (M5 a0 2 (-1))) C fX3_29 hk0 rfl dX3_isMate_14 (fun g11 => ?_)
  obtain ⟨r12, h⟩ := h
  refine q_nn r12 (by decide) ?_
  obtain ⟨r13, h⟩ := h
  refine q_get (v := .ref (rh (M5 a0 2 (-1)) 2)) C fX3_100 r12 (if_neg (Int.not_lt.mpr r13)) dX3_isMate_17 (fun g14 => ?_)
  refine q_iload_n C 2 rfl rfl dX3_isMate_20 ?_
  refine q_callSI (As := [.int (gI a1)]) (st := [.ref (rh (M5 a0 2 (-1)) 2)]) C vX3_96 kX5_pairOf ⟨Nat.le_of_ble_eq_true rfl, Nat.le_of_ble_eq_true rfl⟩ ⟨Nat.le_of_ble_eq_true rfl, Nat.le_of_ble_eq_true rfl⟩ rfl rfl (Nat.le_of_ble_eq_true rfl) (mX5_pairOf l D cy kd ln rh _ a1 M5  h) dX3_isMate_21 (fun c16 M15 g17 h => ?_)
  have h := h g17
  obtain ⟨r18, h⟩ := h
  refine q_iald C r12 rfl (fun _ q => q) r18 dX3_isMate_24 (fun g19 => ?_)
  have h := h g19
  refine q_topi (fun v20 ev20 => ?_)
  have h := h v20 ev20
  have gv20 : rng v20 := by rw [ev20]; exact g19
  refine q_istore_n (lv' := [(3, .int (gI v20)), (2, .int (gI v10)), (0, .ref (gad a0)), (1, .int (gI a1))]) C rfl (by decide) rfl dX3_isMate_25 ?_
  refine q_iload_n C 3 rfl rfl dX3_isMate_26 ?_
  refine q_callSI (As := [.int (gI a1)]) (st := []) C vX3_103 kX5_manOf ⟨Nat.le_of_ble_eq_true rfl, Nat.le_of_ble_eq_true rfl⟩ ⟨Nat.le_of_ble_eq_true rfl, Nat.le_of_ble_eq_true rfl⟩ rfl rfl (Nat.le_of_ble_eq_true rfl) (mX5_manOf l D cy kd ln rh _ a1 M15  h) dX3_isMate_27 (fun c22 M21 g23 h => ?_)
  have h := h g23
  refine q_istore (lv' := [(4, .int (gI c22)), (3, .int (gI v20)), (2, .int (gI v10)), (0, .ref (gad a0)), (1, .int (gI a1))]) C (by decide) rfl dX3_isMate_30 ?_
  refine q_aload_n C 3 rfl rfl dX3_isMate_32 ?_
  refine q_get (v := gR (M21 a0 0 (-1))) C fX3_15 hk0 rfl dX3_isMate_33 (fun g24 => ?_)
  obtain ⟨r25, h⟩ := h
  refine q_nn r25 (by decide) ?_
  refine q_aload_n C 3 rfl rfl dX3_isMate_36 ?_
  refine q_get (v := .int (gI (M21 a0 4 (-1)))) C fX3_39 hk0 rfl dX3_isMate_37 (fun g26 => ?_)
  have h := h g26
  refine q_iload_n C 2 rfl rfl dX3_isMate_40 ?_
  refine q_iload_n C 1 rfl rfl dX3_isMate_41 ?_
  refine q_iload C 0 rfl dX3_isMate_42 ?_
  refine q_callVI (As := [.int (gI (M21 a0 4 (-1))), .int (gI v10), .int (gI v20), .int (gI c22)]) (st := []) C vX3_106 kX0_attacks ⟨Nat.le_of_ble_eq_true rfl, Nat.le_of_ble_eq_true rfl⟩ ⟨Nat.le_of_ble_eq_true rfl, Nat.le_of_ble_eq_true rfl⟩ rfl r25 ⟨_, _, rfl⟩ (by decide) rfl (Nat.le_of_ble_eq_true rfl) (mX0_attacks l D cy kd ln rh _ (M21 a0 0 (-1)) (M21 a0 4 (-1)) v10 v20 c22 M21 r25 h) dX3_isMate_44 (fun c28 M27 g29 h => ?_)
  have h := h g29
  refine q_if_eq (tgt := 74) C g29 (by decide) dX3_isMate_47 (fun b30 => ?_) (fun b30 => ?_)
  · have h := h.1 b30
    refine q_iconst C dX3_isMate_74 ?_
    exact hret 0 M27 _ _ dX3_isMate_75 (Or.inl rfl) h
  · have h := h.2 b30
    refine q_aload_n C 3 rfl rfl dX3_isMate_50 ?_
    refine q_get (v := gR (M27 a0 0 (-1))) C fX3_15 hk0 rfl dX3_isMate_51 (fun g31 => ?_)
    obtain ⟨r32, h⟩ := h
    refine q_nn r32 (by decide) ?_
    refine q_aload_n C 3 rfl rfl dX3_isMate_54 ?_
    refine q_get (v := .int (gI (M27 a0 4 (-1)))) C fX3_39 hk0 rfl dX3_isMate_55 (fun g33 => ?_)
    have h := h g33
    refine q_iload_n C 2 rfl rfl dX3_isMate_58 ?_
    refine q_iload_n C 1 rfl rfl dX3_isMate_59 ?_
    refine q_iload C 0 rfl dX3_isMate_60 ?_
    refine q_callVL (As := [.int (gI (M27 a0 4 (-1))), .int (gI v10), .int (gI v20), .int (gI c22)]) (st := []) C vX3_110 kX0_blackTargets ⟨Nat.le_of_ble_eq_true rfl, Nat.le_of_ble_eq_true rfl⟩ ⟨Nat.le_of_ble_eq_true rfl, Nat.le_of_ble_eq_true rfl⟩ rfl r32 ⟨_, _, rfl⟩ (by decide) rfl (Nat.le_of_ble_eq_true rfl) (mX0_blackTargets l D cy kd ln rh _ (M27 a0 0 (-1)) (M27 a0 4 (-1)) v10 v20 c22 M27 r32 h) dX3_isMate_62 (fun c35 M34 h => ?_)
    refine q_lconst (b := 0) C rfl dX3_isMate_65 ?_
    refine q_lcmp C dX3_isMate_66 ?_
    refine q_if_ne (tgt := 74) C (rng_of _) (by decide) dX3_isMate_67 (fun b37 => ?_) (fun b37 => ?_)
    · have h := h.1 b37
      refine q_iconst C dX3_isMate_74 ?_
      exact hret 0 M34 _ _ dX3_isMate_75 (Or.inl rfl) h
    · have h := h.2 b37
      refine q_iconst C dX3_isMate_70 ?_
      refine q_goto (tgt := 75) C (by decide) dX3_isMate_71 ?_
      exact hret 1 M34 _ _ dX3_isMate_75 (Or.inr rfl) h
set_option maxHeartbeats 4000000 in
set_option maxRecDepth 100000 in
theorem mX3_settle (l : Launch) (D : va_G) (cy : Nat → ClassId) (kd : gKd) (ln : gLn) (rh : gRh) (post : gM → Prop) (a0 : Int) (a1 : Int) (a2 : Int) (M : gM) (hk0 : kd a0 = 3) (h : wX3_settle kd ln post a0 a1 a2 M) : gMV l D cy yX3_settle cX3_settle 3 0 0 [.ref (gad a0), .int (gI a1), .int (gI a2)] kd ln rh M post := by
  refine gMV_of (own := RX3) (by decide) rfl (Nat.le_of_ble_eq_true rfl) ?_
  intro p e s m args below meth c A H0 Q C hret
  unfold wX3_settle at h
  refine q_iload_n C 1 rfl rfl dX3_settle_0 ?_
  refine q_iconst C dX3_settle_1 ?_
  obtain ⟨r1, h⟩ := h
  refine q_icmp_eq (tgt := 55) C r1 (show rng (-1) by decide) (by decide) dX3_settle_2 (fun b2 => ?_) (fun b2 => ?_)
  · have h := h.1 b2
    exact hret M _ _ dX3_settle_55 h
  · have h := h.2 b2
    refine q_aload_n C 0 rfl rfl dX3_settle_5 ?_
    obtain ⟨r4, h⟩ := h
    obtain ⟨r5, h⟩ := h
    obtain ⟨r6, h⟩ := h
    refine q_get (v := .ref (rh (M a0 3 (-1)) 1)) C fX3_34 hk0 (if_neg r4) dX3_settle_6 (fun g3 => ?_)
    refine q_iload_n C 1 rfl rfl dX3_settle_9 ?_
    obtain ⟨r7, h⟩ := h
    refine q_bald C r5 rfl (fun _ q => q) r7 dX3_settle_10 (fun g8 => ?_)
    have h := h g8
    refine q_iconst C dX3_settle_11 ?_
    refine q_icmp_ne (tgt := 55) C g8 (show rng (-1) by decide) (by decide) dX3_settle_12 (fun b9 => ?_) (fun b9 => ?_)
    · have h := h.1 b9
      exact hret M _ _ dX3_settle_55 h
    · have h := h.2 b9
      refine q_aload_n C 0 rfl rfl dX3_settle_15 ?_
      refine q_get (v := .int (gI (M a0 6 (-1)))) C fX3_79 hk0 rfl dX3_settle_16 (fun g10 => ?_)
      have h := h g10
      refine q_aload_n C 0 rfl rfl dX3_settle_19 ?_
      obtain ⟨r11, h⟩ := h
      refine q_get (v := .ref (rh a0 5)) C fX3_44 hk0 (if_neg (Int.not_lt.mpr r11)) dX3_settle_20 (fun g12 => ?_)
      refine q_alen (t0 := 0) C hk0 rfl r11 dX3_settle_23 (fun g13 => ?_)
      have h := h g13
      have g14 : rng (ln a0 5) := ⟨by omega, by omega⟩
      refine q_icmp_ge (tgt := 55) C g10 g14 (by decide) dX3_settle_24 (fun b15 => ?_) (fun b15 => ?_)
      · have h := h.1 b15
        exact hret M _ _ dX3_settle_55 h
      · have h := h.2 b15
        refine q_aload_n C 0 rfl rfl dX3_settle_27 ?_
        refine q_get (v := .ref (rh (M a0 3 (-1)) 1)) C fX3_34 hk0 (if_neg r4) dX3_settle_28 (fun g16 => ?_)
        refine q_iload_n C 1 rfl rfl dX3_settle_31 ?_
        refine q_iload_n C 2 rfl rfl dX3_settle_32 ?_
        refine q_i2b C dX3_settle_33 ?_
        obtain ⟨r17, h⟩ := h
        refine q_bast C r5 rfl (rng8 r17) r17 r7 dX3_settle_34 ?_
        refine q_aload_n C 0 rfl rfl dX3_settle_35 ?_
        refine q_get (v := .ref (rh a0 5)) C fX3_44 hk0 (if_neg (Int.not_lt.mpr r11)) dX3_settle_36 (fun g18 => ?_)
        refine q_aload_n C 0 rfl rfl dX3_settle_39 ?_
        refine q_get (v := .int (gI ((gu M (M a0 3 (-1)) 1 a1 (gi2b a2)) a0 6 (-1)))) C fX3_79 hk0 rfl dX3_settle_40 (fun g19 => ?_)
        have h := h g19
        refine q_iload_n C 1 rfl rfl dX3_settle_43 ?_
        obtain ⟨r20, h⟩ := h
        refine q_iast C hk0 rfl r1 r20 dX3_settle_44 ?_
        refine q_aload_n C 0 rfl rfl dX3_settle_45 ?_
        refine q_dup C rfl dX3_settle_46 ?_
        refine q_get (v := .int (gI ((gu (gu M (M a0 3 (-1)) 1 a1 (gi2b a2)) a0 5 ((gu M (M a0 3 (-1)) 1 a1 (gi2b a2)) a0 6 (-1)) a1) a0 6 (-1)))) C fX3_79 hk0 rfl dX3_settle_47 (fun g21 => ?_)
        have h := h g21
        refine q_iconst C dX3_settle_50 ?_
        refine q_iadd C dX3_settle_51 ?_
        obtain ⟨r22, h⟩ := h
        refine q_put (x := (((gu (gu M (M a0 3 (-1)) 1 a1 (gi2b a2)) a0 5 ((gu M (M a0 3 (-1)) 1 a1 (gi2b a2)) a0 6 (-1)) a1) a0 6 (-1)) + 1)) (ty := .int) C fX3_79 hk0 (fun _ _ _ q => by cases q; rfl) (congrArg (fun z => Value.int (gI z)) gu_s) rfl rfl r22 (fun j q => absurd (show (0 : Nat) = j + 3 from q) (by omega)) dX3_settle_52 ?_
        exact hret (gu (gu (gu M (M a0 3 (-1)) 1 a1 (gi2b a2)) a0 5 ((gu M (M a0 3 (-1)) 1 a1 (gi2b a2)) a0 6 (-1)) a1) a0 6 (-1) (((gu (gu M (M a0 3 (-1)) 1 a1 (gi2b a2)) a0 5 ((gu M (M a0 3 (-1)) 1 a1 (gi2b a2)) a0 6 (-1)) a1) a0 6 (-1)) + 1)) _ _ dX3_settle_55 h
