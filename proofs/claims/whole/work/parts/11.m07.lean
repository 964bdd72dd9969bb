set_option maxHeartbeats 4000000 in
set_option maxRecDepth 100000 in
theorem mX7_numbers (l : Launch) (D : va_G) (cy : Nat → ClassId) (kd : gKd) (ln : gLn) (rh : gRh) (post : gM → Prop) (a0 : Int) (a1 : Int) (M : gM) (hk0 : kd a0 = 7) (h : wX7_numbers kd ln post a0 a1 M) : gMV l D cy yX7_numbers cX7_numbers 9 4 100 [.ref (gad a0), .int (gI a1)] kd ln rh M post := by
  refine gMV_of (own := RX7) (by decide) rfl (Nat.le_of_ble_eq_true rfl) ?_
  intro p e s m args below meth c A H0 Q C hret
  have t191 : ∀ (k50 : Int → Int → Int → gM → Prop), (∀ (x2 : Int), ∀ (x3 : Int), ∀ (x4 : Int), ∀ (M : gM), k50 x2 x3 x4 M → gW p l e (gRm 4 100) s m args below meth c D cy A H0 Q 9 kd ln rh 0 0 M 50 [(0, .ref (gad a0)), (1, .int (gI a1)), (2, .int (gI x2)), (3, .int (gI x3)), (4, .int (gI x4))] []) → ∀ (x2 : Int) (x3 : Int) (x4 : Int) (M : gM), wX7_numbers_191 kd ln post a0 a1 k50 x2 x3 x4 M → gW p l e (gRm 4 100) s m args below meth c D cy A H0 Q 9 kd ln rh 0 0 M 191 [(0, .ref (gad a0)), (1, .int (gI a1)), (2, .int (gI x2)), (3, .int (gI x3)), (4, .int (gI x4))] [] := by
    intro k50 hk50_ x2 x3 x4 M h
    unfold wX7_numbers_191 at h
    refine q_iinc (lv' := [(4, .int (gI (x4 + 1))), (0, .ref (gad a0)), (1, .int (gI a1)), (2, .int (gI x2)), (3, .int (gI x3))]) C 4 rfl (by decide) rfl dX7_numbers_191 ?_
    refine q_goto (tgt := 50) C (by decide) dX7_numbers_194 ?_
    refine q_lv (lv' := [(0, .ref (gad a0)), (1, .int (gI a1)), (2, .int (gI x2)), (3, .int (gI x3)), (4, .int (gI (x4 + 1)))]) [1, 2, 3, 4, 0] rfl ?_
    exact hk50_ x2 x3 (x4 + 1) M h
  have t80 : ∀ (k50 : Int → Int → Int → gM → Prop), (∀ (x2 : Int), ∀ (x3 : Int), ∀ (x4 : Int), ∀ (M : gM), k50 x2 x3 x4 M → gW p l e (gRm 4 100) s m args below meth c D cy A H0 Q 9 kd ln rh 0 0 M 50 [(0, .ref (gad a0)), (1, .int (gI a1)), (2, .int (gI x2)), (3, .int (gI x3)), (4, .int (gI x4))] []) → ∀ (x2 : Int) (x3 : Int) (x4 : Int) (M : gM), wX7_numbers_80 kd ln post a0 a1 k50 x2 x3 x4 M → gW p l e (gRm 4 100) s m args below meth c D cy A H0 Q 9 kd ln rh 0 0 M 80 [(0, .ref (gad a0)), (1, .int (gI a1)), (2, .int (gI x2)), (3, .int (gI x3)), (4, .int (gI x4))] [] := by
    intro k50 hk50_ x2 x3 x4 M h
    unfold wX7_numbers_80 at h
    refine q_iload C 4 rfl dX7_numbers_80 ?_
    refine q_iconst C dX7_numbers_82 ?_
    refine q_iand C dX7_numbers_83 ?_
    refine q_topi (fun v23 ev23 => ?_)
    have h := h v23 ev23
    refine q_istore (lv' := [(5, .int (gI v23)), (0, .ref (gad a0)), (1, .int (gI a1)), (2, .int (gI x2)), (3, .int (gI x3)), (4, .int (gI x4))]) C (by decide) rfl dX7_numbers_84 ?_
    refine q_iload C 5 rfl dX7_numbers_86 ?_
    refine q_iconst C dX7_numbers_88 ?_
    obtain ⟨r24, h⟩ := h
    refine q_idiv C ⟨r24.1, r24.2, by decide, by decide⟩ dX7_numbers_89 ?_
    refine q_aload_n C 1 rfl rfl dX7_numbers_90 ?_
    refine q_get (v := .int (gI (M a0 2 (-1)))) C fX7_13 hk0 rfl dX7_numbers_91 (fun g25 => ?_)
    have h := h g25
    obtain ⟨r26, h⟩ := h
    refine q_irem C r26 dX7_numbers_94 ?_
    refine q_topi (fun v27 ev27 => ?_)
    have h := h v27 ev27
    refine q_istore (lv' := [(6, .int (gI v27)), (5, .int (gI v23)), (0, .ref (gad a0)), (1, .int (gI a1)), (2, .int (gI x2)), (3, .int (gI x3)), (4, .int (gI x4))]) C (by decide) rfl dX7_numbers_95 ?_
    refine q_iload C 6 rfl dX7_numbers_97 ?_
    refine q_iconst C dX7_numbers_99 ?_
    refine q_idiv C ⟨r24.1, r24.2, by decide, by decide⟩ dX7_numbers_100 ?_
    refine q_aload_n C 2 rfl rfl dX7_numbers_101 ?_
    refine q_get (v := .int (gI (M a0 2 (-1)))) C fX7_13 hk0 rfl dX7_numbers_102 (fun g28 => ?_)
    refine q_idiv C r26 dX7_numbers_105 ?_
    refine q_aload_n C 2 rfl rfl dX7_numbers_106 ?_
    refine q_get (v := .int (gI (M a0 2 (-1)))) C fX7_13 hk0 rfl dX7_numbers_107 (fun g29 => ?_)
    obtain ⟨r30, h⟩ := h
    refine q_irem C r30 dX7_numbers_110 ?_
    refine q_topi (fun v31 ev31 => ?_)
    have h := h v31 ev31
    refine q_istore (lv' := [(7, .int (gI v31)), (6, .int (gI v27)), (5, .int (gI v23)), (0, .ref (gad a0)), (1, .int (gI a1)), (2, .int (gI x2)), (3, .int (gI x3)), (4, .int (gI x4))]) C (by decide) rfl dX7_numbers_111 ?_
    refine q_iload C 7 rfl dX7_numbers_113 ?_
    refine q_iconst C dX7_numbers_115 ?_
    refine q_idiv C ⟨r24.1, r24.2, by decide, by decide⟩ dX7_numbers_116 ?_
    refine q_aload_n C 3 rfl rfl dX7_numbers_117 ?_
    refine q_get (v := .int (gI (M a0 2 (-1)))) C fX7_13 hk0 rfl dX7_numbers_118 (fun g32 => ?_)
    refine q_idiv C r26 dX7_numbers_121 ?_
    refine q_aload_n C 3 rfl rfl dX7_numbers_122 ?_
    refine q_get (v := .int (gI (M a0 2 (-1)))) C fX7_13 hk0 rfl dX7_numbers_123 (fun g33 => ?_)
    refine q_idiv C r30 dX7_numbers_126 ?_
    refine q_topi (fun v34 ev34 => ?_)
    have h := h v34 ev34
    refine q_istore (lv' := [(8, .int (gI v34)), (7, .int (gI v31)), (6, .int (gI v27)), (5, .int (gI v23)), (0, .ref (gad a0)), (1, .int (gI a1)), (2, .int (gI x2)), (3, .int (gI x3)), (4, .int (gI x4))]) C (by decide) rfl dX7_numbers_127 ?_
    refine q_aload_n C 4 rfl rfl dX7_numbers_129 ?_
    refine q_iload_n C 5 rfl rfl dX7_numbers_130 ?_
    refine q_iload C 0 rfl dX7_numbers_131 ?_
    refine q_iload C 1 rfl dX7_numbers_133 ?_
    refine q_iload C 2 rfl dX7_numbers_135 ?_
    refine q_iload C 3 rfl dX7_numbers_137 ?_
    refine q_callVI (As := [.int (gI a1), .int (gI v34), .int (gI v31), .int (gI v27), .int (gI v23)]) (st := []) C vX7_107 kX7_legal ⟨Nat.le_of_ble_eq_true rfl, Nat.le_of_ble_eq_true rfl⟩ ⟨Nat.le_of_ble_eq_true rfl, Nat.le_of_ble_eq_true rfl⟩ rfl hk0 ⟨_, _, rfl⟩ (by decide) rfl (Nat.le_of_ble_eq_true rfl) (mX7_legal l D cy kd ln rh _ a0 a1 v34 v31 v27 v23 M hk0 h) dX7_numbers_139 (fun c36 M35 g37 h => ?_)
    have h := h g37
    refine q_if_eq (tgt := 191) C g37 (by decide) dX7_numbers_142 (fun b38 => ?_) (fun b38 => ?_)
    · have h := h.1 b38
      refine q_lv (lv' := [(0, .ref (gad a0)), (1, .int (gI a1)), (2, .int (gI x2)), (3, .int (gI x3)), (4, .int (gI x4))]) [4, 5, 6, 7, 8] rfl ?_
      exact t191 k50 hk50_ x2 x3 x4 M35 h
    · have h := h.2 b38
      refine q_aload_n C 4 rfl rfl dX7_numbers_145 ?_
      refine q_iload_n C 5 rfl rfl dX7_numbers_146 ?_
      refine q_iload C 0 rfl dX7_numbers_147 ?_
      refine q_iload C 1 rfl dX7_numbers_149 ?_
      refine q_iload C 2 rfl dX7_numbers_151 ?_
      refine q_iload C 3 rfl dX7_numbers_153 ?_
      refine q_callVI (As := [.int (gI a1), .int (gI v34), .int (gI v31), .int (gI v27), .int (gI v23)]) (st := []) C vX7_173 kX7_least ⟨Nat.le_of_ble_eq_true rfl, Nat.le_of_ble_eq_true rfl⟩ ⟨Nat.le_of_ble_eq_true rfl, Nat.le_of_ble_eq_true rfl⟩ rfl hk0 ⟨_, _, rfl⟩ (by decide) rfl (Nat.le_of_ble_eq_true rfl) (mX7_least l D cy kd ln rh _ a0 a1 v34 v31 v27 v23 M35 hk0 h) dX7_numbers_155 (fun c40 M39 g41 h => ?_)
      have h := h g41
      refine q_iload C 8 rfl dX7_numbers_158 ?_
      obtain ⟨r42, h⟩ := h
      refine q_icmp_ne (tgt := 191) C g41 r42 (by decide) dX7_numbers_160 (fun b43 => ?_) (fun b43 => ?_)
      · have h := h.1 b43
        refine q_lv (lv' := [(0, .ref (gad a0)), (1, .int (gI a1)), (2, .int (gI x2)), (3, .int (gI x3)), (4, .int (gI x4))]) [4, 5, 6, 7, 8] rfl ?_
        exact t191 k50 hk50_ x2 x3 x4 M39 h
      · have h := h.2 b43
        refine q_aload_n C 4 rfl rfl dX7_numbers_163 ?_
        obtain ⟨r44, h⟩ := h
        refine q_get (v := .ref (rh a0 5)) C fX7_26 hk0 (if_neg (Int.not_lt.mpr r44)) dX7_numbers_164 (fun g45 => ?_)
        refine q_sipush C (by decide) dX7_numbers_167 ?_
        refine q_iload_n C 5 rfl rfl dX7_numbers_170 ?_
        refine q_imul C dX7_numbers_171 ?_
        refine q_iload C 8 rfl dX7_numbers_172 ?_
        refine q_iconst C dX7_numbers_174 ?_
        refine q_ishr C dX7_numbers_175 ?_
        refine q_iadd C dX7_numbers_176 ?_
        refine q_dup2 C rfl rfl dX7_numbers_177 ?_
        obtain ⟨r46, h⟩ := h
        refine q_iald C hk0 rfl (fun _ q => q) r46 dX7_numbers_178 (fun g47 => ?_)
        have h := h g47
        refine q_iconst C dX7_numbers_179 ?_
        refine q_iload C 8 rfl dX7_numbers_180 ?_
        refine q_bipush C (by decide) dX7_numbers_182 ?_
        refine q_iand C dX7_numbers_184 ?_
        refine q_ishl C dX7_numbers_185 ?_
        refine q_ior C dX7_numbers_186 ?_
        obtain ⟨r48, h⟩ := h
        refine q_iast C hk0 rfl r48 r46 dX7_numbers_187 ?_
        refine q_iinc (lv' := [(2, .int (gI (x2 + 1))), (8, .int (gI v34)), (7, .int (gI v31)), (6, .int (gI v27)), (5, .int (gI v23)), (0, .ref (gad a0)), (1, .int (gI a1)), (3, .int (gI x3)), (4, .int (gI x4))]) C 6 rfl (by decide) rfl dX7_numbers_188 ?_
        refine q_lv (lv' := [(0, .ref (gad a0)), (1, .int (gI a1)), (2, .int (gI (x2 + 1))), (3, .int (gI x3)), (4, .int (gI x4))]) [5, 6, 0, 7, 8] rfl ?_
        exact t191 k50 hk50_ (x2 + 1) x3 x4 (gu M39 a0 5 ((16384 * a1) + (gishr x4 5)) (gior (M39 a0 5 ((16384 * a1) + (gishr x4 5))) (gishl 1 (giand x4 31)))) h
  have t50 : ∀ (n : Nat) (x2 : Int) (x3 : Int) (x4 : Int) (M : gM), wX7_numbers_50 kd ln post a0 a1 n x2 x3 x4 M → gW p l e (gRm 4 100) s m args below meth c D cy A H0 Q 9 kd ln rh 0 0 M 50 [(0, .ref (gad a0)), (1, .int (gI a1)), (2, .int (gI x2)), (3, .int (gI x3)), (4, .int (gI x4))] [] := by
    intro n
    induction n with
    | zero => intro x2 x3 x4 M h; exact absurd h (by simp [wX7_numbers_50])
    | succ n ih =>
      intro x2 x3 x4 M h
      have hk50_ := ih
      rw [wX7_numbers_50] at h
      refine q_iload C 4 rfl dX7_numbers_50 ?_
      refine q_iload_n C 3 rfl rfl dX7_numbers_52 ?_
      obtain ⟨r10, h⟩ := h
      obtain ⟨r11, h⟩ := h
      refine q_icmp_ge (tgt := 197) C r10 r11 (by decide) dX7_numbers_53 (fun b12 => ?_) (fun b12 => ?_)
      · have h := h.1 b12
        refine q_aload_n C 0 rfl rfl dX7_numbers_197 ?_
        obtain ⟨r13, h⟩ := h
        refine q_get (v := .ref (rh a0 7)) C fX7_33 hk0 (if_neg (Int.not_lt.mpr r13)) dX7_numbers_198 (fun g14 => ?_)
        refine q_iload_n C 1 rfl rfl dX7_numbers_201 ?_
        refine q_iload_n C 2 rfl rfl dX7_numbers_202 ?_
        obtain ⟨r15, h⟩ := h
        obtain ⟨r16, h⟩ := h
        refine q_iast C hk0 rfl r16 r15 dX7_numbers_203 ?_
        exact hret (gu M a0 7 a1 x2) _ _ dX7_numbers_204 h
      · have h := h.2 b12
        refine q_iload C 4 rfl dX7_numbers_56 ?_
        refine q_bipush C (by decide) dX7_numbers_58 ?_
        refine q_iand C dX7_numbers_60 ?_
        obtain ⟨r17, h⟩ := h
        refine q_if_ne (tgt := 80) C r17 (by decide) dX7_numbers_61 (fun b18 => ?_) (fun b18 => ?_)
        · have h := h.1 b18
          exact t80 (wX7_numbers_50 kd ln post a0 a1 n) hk50_ x2 x3 x4 M h
        · have h := h.2 b18
          refine q_aload_n C 0 rfl rfl dX7_numbers_64 ?_
          obtain ⟨r19, h⟩ := h
          refine q_get (v := .ref (rh a0 6)) C fX7_30 hk0 (if_neg (Int.not_lt.mpr r19)) dX7_numbers_65 (fun g20 => ?_)
          refine q_sipush C (by decide) dX7_numbers_68 ?_
          refine q_iload_n C 1 rfl rfl dX7_numbers_71 ?_
          refine q_imul C dX7_numbers_72 ?_
          refine q_iload C 4 rfl dX7_numbers_73 ?_
          refine q_iconst C dX7_numbers_75 ?_
          refine q_ishr C dX7_numbers_76 ?_
          refine q_iadd C dX7_numbers_77 ?_
          refine q_iload_n C 2 rfl rfl dX7_numbers_78 ?_
          obtain ⟨r21, h⟩ := h
          obtain ⟨r22, h⟩ := h
          refine q_iast C hk0 rfl r22 r21 dX7_numbers_79 ?_
          exact t80 (wX7_numbers_50 kd ln post a0 a1 n) hk50_ x2 x3 x4 (gu M a0 6 ((16384 * a1) + (gishr x4 5)) x2) h
  have t2 : ∀ (n : Nat) (x2 : Int) (M : gM), wX7_numbers_2 kd ln post a0 a1 n x2 M → gW p l e (gRm 4 100) s m args below meth c D cy A H0 Q 9 kd ln rh 0 0 M 2 [(0, .ref (gad a0)), (1, .int (gI a1)), (2, .int (gI x2))] [] := by
    intro n
    induction n with
    | zero => intro x2 M h; exact absurd h (by simp [wX7_numbers_2])
    | succ n ih =>
      intro x2 M h
      have hk2_ := ih
      rw [wX7_numbers_2] at h
      refine q_iload_n C 2 rfl rfl dX7_numbers_2 ?_
      refine q_sipush C (by decide) dX7_numbers_3 ?_
      obtain ⟨r1, h⟩ := h
      refine q_icmp_ge (tgt := 28) C r1 (show rng 16384 by decide) (by decide) dX7_numbers_6 (fun b2 => ?_) (fun b2 => ?_)
      · have h := h.1 b2
        refine q_iconst C dX7_numbers_28 ?_
        refine q_istore_n (lv' := [(2, .int (gI 0)), (0, .ref (gad a0)), (1, .int (gI a1))]) C rfl (by decide) rfl dX7_numbers_29 ?_
        refine q_iconst C dX7_numbers_30 ?_
        refine q_aload_n C 1 rfl rfl dX7_numbers_31 ?_
        refine q_get (v := .int (gI (M a0 2 (-1)))) C fX7_13 hk0 rfl dX7_numbers_32 (fun g3 => ?_)
        have h := h g3
        refine q_imul C dX7_numbers_35 ?_
        refine q_aload_n C 1 rfl rfl dX7_numbers_36 ?_
        refine q_get (v := .int (gI (M a0 2 (-1)))) C fX7_13 hk0 rfl dX7_numbers_37 (fun g4 => ?_)
        refine q_imul C dX7_numbers_40 ?_
        refine q_aload_n C 1 rfl rfl dX7_numbers_41 ?_
        refine q_get (v := .int (gI (M a0 2 (-1)))) C fX7_13 hk0 rfl dX7_numbers_42 (fun g5 => ?_)
        refine q_imul C dX7_numbers_45 ?_
        refine q_topi (fun v6 ev6 => ?_)
        have h := h v6 ev6
        refine q_istore_n (lv' := [(3, .int (gI v6)), (2, .int (gI 0)), (0, .ref (gad a0)), (1, .int (gI a1))]) C rfl (by decide) rfl dX7_numbers_46 ?_
        refine q_iconst C dX7_numbers_47 ?_
        refine q_istore (lv' := [(4, .int (gI 0)), (3, .int (gI v6)), (2, .int (gI 0)), (0, .ref (gad a0)), (1, .int (gI a1))]) C (by decide) rfl dX7_numbers_48 ?_
        refine q_lv (lv' := [(0, .ref (gad a0)), (1, .int (gI a1)), (2, .int (gI 0)), (3, .int (gI v6)), (4, .int (gI 0))]) [3, 4, 2, 1, 0] rfl ?_
        obtain ⟨j50, h⟩ := h
        exact t50  j50 0 v6 0 M h
      · have h := h.2 b2
        refine q_aload_n C 0 rfl rfl dX7_numbers_9 ?_
        obtain ⟨r7, h⟩ := h
        refine q_get (v := .ref (rh a0 5)) C fX7_26 hk0 (if_neg (Int.not_lt.mpr r7)) dX7_numbers_10 (fun g8 => ?_)
        refine q_sipush C (by decide) dX7_numbers_13 ?_
        refine q_iload_n C 1 rfl rfl dX7_numbers_16 ?_
        refine q_imul C dX7_numbers_17 ?_
        refine q_iload_n C 2 rfl rfl dX7_numbers_18 ?_
        refine q_iadd C dX7_numbers_19 ?_
        refine q_iconst C dX7_numbers_20 ?_
        obtain ⟨r9, h⟩ := h
        refine q_iast C hk0 rfl (show rng 0 by decide) r9 dX7_numbers_21 ?_
        refine q_iinc (lv' := [(2, .int (gI (x2 + 1))), (0, .ref (gad a0)), (1, .int (gI a1))]) C 2 rfl (by decide) rfl dX7_numbers_22 ?_
        refine q_goto (tgt := 2) C (by decide) dX7_numbers_25 ?_
        refine q_lv (lv' := [(0, .ref (gad a0)), (1, .int (gI a1)), (2, .int (gI (x2 + 1)))]) [1, 2, 0] rfl ?_
        exact hk2_ (x2 + 1) (gu M a0 5 ((16384 * a1) + x2) 0) h
  unfold wX7_numbers at h
  refine q_iconst C dX7_numbers_0 ?_
  refine q_istore_n (lv' := [(2, .int (gI 0)), (0, .ref (gad a0)), (1, .int (gI a1))]) C rfl (by decide) rfl dX7_numbers_1 ?_
  refine q_lv (lv' := [(0, .ref (gad a0)), (1, .int (gI a1)), (2, .int (gI 0))]) [1, 2, 0] rfl ?_
  obtain ⟨j2, h⟩ := h
  exact t2  j2 0 M h
set_option maxHeartbeats 4000000 in
set_option maxRecDepth 100000 in
theorem mX7_make (l : Launch) (D : va_G) (cy : Nat → ClassId) (kd : gKd) (ln : gLn) (rh : gRh) (post : Int → gM → Prop) (a0 : Int) (a1 : Int) (M : gM) (hk0 : kd a0 = 7) (h : wX7_make kd ln post a0 a1 M) : gMI l D cy yX7_make cX7_make 3 .int 9 233 [.ref (gad a0), .int (gI a1)] kd ln rh M post := by
  refine gMI_of (own := RX7) (by decide) rfl (Nat.le_of_ble_eq_true rfl) ?_
  intro p e s m args below meth c A H0 Q C hret
  have t58 : ∀ (k27 : Int → gM → Prop), (∀ (x2 : Int), ∀ (M : gM), k27 x2 M → gW p l e (gRm 9 233) s m args below meth c D cy A H0 Q 3 kd ln rh 0 0 M 27 [(0, .ref (gad a0)), (1, .int (gI a1)), (2, .int (gI x2))] []) → ∀ (x2 : Int) (M : gM), wX7_make_58 kd ln post a0 a1 k27 x2 M → gW p l e (gRm 9 233) s m args below meth c D cy A H0 Q 3 kd ln rh 0 0 M 58 [(0, .ref (gad a0)), (1, .int (gI a1)), (2, .int (gI x2))] [] := by
    intro k27 hk27_ x2 M h
    unfold wX7_make_58 at h
    refine q_iinc (lv' := [(2, .int (gI (x2 + 1))), (0, .ref (gad a0)), (1, .int (gI a1))]) C 2 rfl (by decide) rfl dX7_make_58 ?_
    refine q_goto (tgt := 27) C (by decide) dX7_make_61 ?_
    refine q_lv (lv' := [(0, .ref (gad a0)), (1, .int (gI a1)), (2, .int (gI (x2 + 1)))]) [1, 2, 0] rfl ?_
    exact hk27_ (x2 + 1) M h
  have t27 : ∀ (n : Nat) (x2 : Int) (M : gM), wX7_make_27 kd ln post a0 a1 n x2 M → gW p l e (gRm 9 233) s m args below meth c D cy A H0 Q 3 kd ln rh 0 0 M 27 [(0, .ref (gad a0)), (1, .int (gI a1)), (2, .int (gI x2))] [] := by
    intro n
    induction n with
    | zero => intro x2 M h; exact absurd h (by simp [wX7_make_27])
    | succ n ih =>
      intro x2 M h
      have hk27_ := ih
      rw [wX7_make_27] at h
      refine q_iload_n C 2 rfl rfl dX7_make_27 ?_
      refine q_iload_n C 1 rfl rfl dX7_make_28 ?_
      obtain ⟨r7, h⟩ := h
      obtain ⟨r8, h⟩ := h
      refine q_icmp_gt (tgt := 64) C r7 r8 (by decide) dX7_make_29 (fun b9 => ?_) (fun b9 => ?_)
      · have h := h.1 b9
        refine q_aload_n C 0 rfl rfl dX7_make_64 ?_
        obtain ⟨r10, h⟩ := h
        refine q_get (v := .ref (rh a0 7)) C fX7_33 hk0 (if_neg (Int.not_lt.mpr r10)) dX7_make_65 (fun g11 => ?_)
        refine q_iload_n C 1 rfl rfl dX7_make_68 ?_
        obtain ⟨r12, h⟩ := h
        refine q_iald C hk0 rfl (fun _ q => q) r12 dX7_make_69 (fun g13 => ?_)
        have h := h g13
        exact hret (M a0 7 a1) M _ _ dX7_make_70 g13 h
      · have h := h.2 b9
        refine q_aload_n C 0 rfl rfl dX7_make_32 ?_
        obtain ⟨r14, h⟩ := h
        refine q_get (v := .ref (rh a0 3)) C fX7_16 hk0 (if_neg (Int.not_lt.mpr r14)) dX7_make_33 (fun g15 => ?_)
        refine q_iload_n C 2 rfl rfl dX7_make_36 ?_
        obtain ⟨r16, h⟩ := h
        refine q_zald C hk0 rfl (fun _ q => q) r16 dX7_make_37 (fun g17 => ?_)
        have h := h g17
        refine q_if_ne (tgt := 58) C g17 (by decide) dX7_make_38 (fun b18 => ?_) (fun b18 => ?_)
        · have h := h.1 b18
          exact t58 (wX7_make_27 kd ln post a0 a1 n) hk27_ x2 M h
        · have h := h.2 b18
          refine q_aload_n C 0 rfl rfl dX7_make_41 ?_
          refine q_iload_n C 2 rfl rfl dX7_make_42 ?_
          refine q_callVV (As := [.int (gI x2)]) (st := []) C vX7_127 kX7_layers ⟨Nat.le_of_ble_eq_true rfl, Nat.le_of_ble_eq_true rfl⟩ ⟨Nat.le_of_ble_eq_true rfl, Nat.le_of_ble_eq_true rfl⟩ rfl hk0 ⟨_, _, rfl⟩ (by decide) rfl (Nat.le_of_ble_eq_true rfl) (mX7_layers l D cy kd ln rh _ a0 x2 M hk0 h) dX7_make_43 (fun M19 h => ?_)
          refine q_aload_n C 0 rfl rfl dX7_make_46 ?_
          refine q_iload_n C 2 rfl rfl dX7_make_47 ?_
          refine q_callVV (As := [.int (gI x2)]) (st := []) C vX7_131 kX7_numbers ⟨Nat.le_of_ble_eq_true rfl, Nat.le_of_ble_eq_true rfl⟩ ⟨Nat.le_of_ble_eq_true rfl, Nat.le_of_ble_eq_true rfl⟩ rfl hk0 ⟨_, _, rfl⟩ (by decide) rfl (Nat.le_of_ble_eq_true rfl) (mX7_numbers l D cy kd ln rh _ a0 x2 M19 hk0 h) dX7_make_48 (fun M22 h => ?_)
          refine q_aload_n C 0 rfl rfl dX7_make_51 ?_
          refine q_get (v := .ref (rh a0 3)) C fX7_16 hk0 (if_neg (Int.not_lt.mpr r14)) dX7_make_52 (fun g25 => ?_)
          refine q_iload_n C 2 rfl rfl dX7_make_55 ?_
          refine q_iconst C dX7_make_56 ?_
          refine q_zast C hk0 rfl (rng1 (Or.inr rfl)) (Or.inr rfl) r16 dX7_make_57 ?_
          exact t58 (wX7_make_27 kd ln post a0 a1 n) hk27_ x2 (gu M22 a0 3 x2 1) h
  have t26 : ∀ (y0 : Int) (M : gM), wX7_make_26 kd ln post a0 a1 y0 M → gW p l e (gRm 9 233) s m args below meth c D cy A H0 Q 3 kd ln rh 0 0 M 26 [(0, .ref (gad a0)), (1, .int (gI a1))] [.int (gI y0)] := by
    intro  y0 M h
    unfold wX7_make_26 at h
    refine q_istore_n (lv' := [(2, .int (gI y0)), (0, .ref (gad a0)), (1, .int (gI a1))]) C rfl (by decide) rfl dX7_make_26 ?_
    refine q_lv (lv' := [(0, .ref (gad a0)), (1, .int (gI a1)), (2, .int (gI y0))]) [1, 2, 0] rfl ?_
    obtain ⟨j27, h⟩ := h
    exact t27  j27 y0 M h
  unfold wX7_make at h
  refine q_aload_n C 0 rfl rfl dX7_make_0 ?_
  refine q_iconst C dX7_make_1 ?_
  refine q_put (x := 0) (ty := .int) C fX7_81 hk0 (fun _ _ _ q => by cases q; rfl) (congrArg (fun z => Value.int (gI z)) gu_s) rfl rfl (show rng 0 by decide) (fun j q => absurd (show (0 : Nat) = j + 3 from q) (by omega)) dX7_make_2 ?_
  refine q_iload_n C 1 rfl rfl dX7_make_5 ?_
  refine q_iconst C dX7_make_6 ?_
  refine q_iconst C dX7_make_7 ?_
  refine q_callSI (As := [.int (gI a1), .int (gI 0), .int (gI 2)]) (st := []) C vX7_84 kX7_in ⟨Nat.le_of_ble_eq_true rfl, Nat.le_of_ble_eq_true rfl⟩ ⟨Nat.le_of_ble_eq_true rfl, Nat.le_of_ble_eq_true rfl⟩ rfl rfl (Nat.le_of_ble_eq_true rfl) (mX7_in l D cy kd ln rh _ a1 0 2 (gu M a0 0 (-1) 0)  h) dX7_make_8 (fun c2 M1 g3 h => ?_)
  have h := h g3
  refine q_if_ne (tgt := 16) C g3 (by decide) dX7_make_11 (fun b4 => ?_) (fun b4 => ?_)
  · have h := h.1 b4
    refine q_iload_n C 1 rfl rfl dX7_make_16 ?_
    refine q_iconst C dX7_make_17 ?_
    obtain ⟨r5, h⟩ := h
    refine q_icmp_ne (tgt := 25) C r5 (show rng 2 by decide) (by decide) dX7_make_18 (fun b6 => ?_) (fun b6 => ?_)
    · have h := h.1 b6
      refine q_iload_n C 1 rfl rfl dX7_make_25 ?_
      exact t26  a1 M1 h
    · have h := h.2 b6
      refine q_iconst C dX7_make_21 ?_
      refine q_goto (tgt := 26) C (by decide) dX7_make_22 ?_
      exact t26  0 M1 h
  · have h := h.2 b4
    refine q_iconst C dX7_make_14 ?_
    exact hret (-1) M1 _ _ dX7_make_15 (show rng (-1) by decide) h
set_option maxHeartbeats 4000000 in
set_option maxRecDepth 100000 in
theorem mX6_isLegal (l : Launch) (D : va_G) (cy : Nat → ClassId) (kd : gKd) (ln : gLn) (rh : gRh) (post : Int → gM → Prop) (a0 : Int) (a1 : Int) (a2 : Int) (a3 : Int) (a4 : Int) (a5 : Int) (M : gM) (hk0 : kd a0 = 6) (h : wX6_isLegal kd ln post a0 a1 a2 a3 a4 a5 M) : gMI l D cy yX6_isLegal cX6_isLegal 6 .boolean 3 72 [.ref (gad a0), .int (gI a1), .int (gI a2), .int (gI a3), .int (gI a4), .int (gI a5)] kd ln rh M post := by
  refine gMI_ofZ (own := RX6) (by decide) rfl (Nat.le_of_ble_eq_true rfl) ?_
  intro p e s m args below meth c A H0 Q C hret
  unfold wX6_isLegal at h
  refine q_aload_n C 0 rfl rfl dX6_isLegal_0 ?_
  refine q_get (v := gR (M a0 1 (-1))) C fX6_52 hk0 rfl dX6_isLegal_1 (fun g1 => ?_)
  obtain ⟨r2, h⟩ := h
  refine q_nn r2 (by decide) ?_
  refine q_iload_n C 1 rfl rfl dX6_isLegal_4 ?_
  refine q_iload_n C 2 rfl rfl dX6_isLegal_5 ?_
  refine q_iload_n C 3 rfl rfl dX6_isLegal_6 ?_
  refine q_iload C 4 rfl dX6_isLegal_7 ?_
  refine q_iload C 5 rfl dX6_isLegal_9 ?_
  refine q_callVI (As := [.int (gI a1), .int (gI a2), .int (gI a3), .int (gI a4), .int (gI a5)]) (st := []) C vX6_70 kX0_allows ⟨Nat.le_of_ble_eq_true rfl, Nat.le_of_ble_eq_true rfl⟩ ⟨Nat.le_of_ble_eq_true rfl, Nat.le_of_ble_eq_true rfl⟩ rfl r2 ⟨_, _, rfl⟩ (by decide) rfl (Nat.le_of_ble_eq_true rfl) (mX0_allows l D cy kd ln rh _ (M a0 1 (-1)) a1 a2 a3 a4 a5 M r2 h) dX6_isLegal_11 (fun c4 M3 g5 h => ?_)
  have h := h g5
  obtain ⟨r6, h⟩ := h
  exact hret c4 M3 _ _ dX6_isLegal_14 r6 h
set_option maxHeartbeats 4000000 in
set_option maxRecDepth 100000 in
theorem mX7_areNumbers (l : Launch) (D : va_G) (cy : Nat → ClassId) (kd : gKd) (ln : gLn) (rh : gRh) (post : Int → gM → Prop) (a0 : Int) (a1 : Int) (a2 : Int) (a3 : Int) (a4 : Int) (a5 : Int) (M : gM) (hk0 : kd a0 = 7) (h : wX7_areNumbers kd ln post a0 a1 a2 a3 a4 a5 M) : gMI l D cy yX7_areNumbers cX7_areNumbers 6 .boolean 1 22 [.ref (gad a0), .int (gI a1), .int (gI a2), .int (gI a3), .int (gI a4), .int (gI a5)] kd ln rh M post := by
  refine gMI_ofZ (own := RX7) (by decide) rfl (Nat.le_of_ble_eq_true rfl) ?_
  intro p e s m args below meth c A H0 Q C hret
  unfold wX7_areNumbers at h
  refine q_iload_n C 1 rfl rfl dX7_areNumbers_0 ?_
  refine q_iconst C dX7_areNumbers_1 ?_
  refine q_iconst C dX7_areNumbers_2 ?_
  refine q_callSI (As := [.int (gI a1), .int (gI 0), .int (gI 2)]) (st := []) C vX7_84 kX7_in ⟨Nat.le_of_ble_eq_true rfl, Nat.le_of_ble_eq_true rfl⟩ ⟨Nat.le_of_ble_eq_true rfl, Nat.le_of_ble_eq_true rfl⟩ rfl rfl (Nat.le_of_ble_eq_true rfl) (mX7_in l D cy kd ln rh _ a1 0 2 M  h) dX7_areNumbers_3 (fun c2 M1 g3 h => ?_)
  have h := h g3
  refine q_if_eq (tgt := 66) C g3 (by decide) dX7_areNumbers_6 (fun b4 => ?_) (fun b4 => ?_)
  · have h := h.1 b4
    refine q_iconst C dX7_areNumbers_66 ?_
    exact hret 0 M1 _ _ dX7_areNumbers_67 (Or.inl rfl) h
  · have h := h.2 b4
    refine q_iload_n C 2 rfl rfl dX7_areNumbers_9 ?_
    refine q_iconst C dX7_areNumbers_10 ?_
    refine q_aload_n C 0 rfl rfl dX7_areNumbers_11 ?_
    refine q_get (v := .int (gI (M1 a0 2 (-1)))) C fX7_13 hk0 rfl dX7_areNumbers_12 (fun g5 => ?_)
    have h := h g5
    refine q_iconst C dX7_areNumbers_15 ?_
    refine q_isub C dX7_areNumbers_16 ?_
    refine q_callSI (As := [.int (gI a2), .int (gI 0), .int (gI ((M1 a0 2 (-1)) - 1))]) (st := []) C vX7_84 kX7_in ⟨Nat.le_of_ble_eq_true rfl, Nat.le_of_ble_eq_true rfl⟩ ⟨Nat.le_of_ble_eq_true rfl, Nat.le_of_ble_eq_true rfl⟩ rfl rfl (Nat.le_of_ble_eq_true rfl) (mX7_in l D cy kd ln rh _ a2 0 ((M1 a0 2 (-1)) - 1) M1  h) dX7_areNumbers_17 (fun c7 M6 g8 h => ?_)
    have h := h g8
    refine q_if_eq (tgt := 66) C g8 (by decide) dX7_areNumbers_20 (fun b9 => ?_) (fun b9 => ?_)
    · have h := h.1 b9
      refine q_iconst C dX7_areNumbers_66 ?_
      exact hret 0 M6 _ _ dX7_areNumbers_67 (Or.inl rfl) h
    · have h := h.2 b9
      refine q_iload_n C 3 rfl rfl dX7_areNumbers_23 ?_
      refine q_iconst C dX7_areNumbers_24 ?_
      refine q_aload_n C 0 rfl rfl dX7_areNumbers_25 ?_
      refine q_get (v := .int (gI (M6 a0 2 (-1)))) C fX7_13 hk0 rfl dX7_areNumbers_26 (fun g10 => ?_)
      have h := h g10
      refine q_iconst C dX7_areNumbers_29 ?_
      refine q_isub C dX7_areNumbers_30 ?_
      refine q_callSI (As := [.int (gI a3), .int (gI 0), .int (gI ((M6 a0 2 (-1)) - 1))]) (st := []) C vX7_84 kX7_in ⟨Nat.le_of_ble_eq_true rfl, Nat.le_of_ble_eq_true rfl⟩ ⟨Nat.le_of_ble_eq_true rfl, Nat.le_of_ble_eq_true rfl⟩ rfl rfl (Nat.le_of_ble_eq_true rfl) (mX7_in l D cy kd ln rh _ a3 0 ((M6 a0 2 (-1)) - 1) M6  h) dX7_areNumbers_31 (fun c12 M11 g13 h => ?_)
      have h := h g13
      refine q_if_eq (tgt := 66) C g13 (by decide) dX7_areNumbers_34 (fun b14 => ?_) (fun b14 => ?_)
      · have h := h.1 b14
        refine q_iconst C dX7_areNumbers_66 ?_
        exact hret 0 M11 _ _ dX7_areNumbers_67 (Or.inl rfl) h
      · have h := h.2 b14
        refine q_iload C 4 rfl dX7_areNumbers_37 ?_
        refine q_iconst C dX7_areNumbers_39 ?_
        refine q_aload_n C 0 rfl rfl dX7_areNumbers_40 ?_
        refine q_get (v := .int (gI (M11 a0 2 (-1)))) C fX7_13 hk0 rfl dX7_areNumbers_41 (fun g15 => ?_)
        have h := h g15
        refine q_iconst C dX7_areNumbers_44 ?_
        refine q_isub C dX7_areNumbers_45 ?_
        refine q_callSI (As := [.int (gI a4), .int (gI 0), .int (gI ((M11 a0 2 (-1)) - 1))]) (st := []) C vX7_84 kX7_in ⟨Nat.le_of_ble_eq_true rfl, Nat.le_of_ble_eq_true rfl⟩ ⟨Nat.le_of_ble_eq_true rfl, Nat.le_of_ble_eq_true rfl⟩ rfl rfl (Nat.le_of_ble_eq_true rfl) (mX7_in l D cy kd ln rh _ a4 0 ((M11 a0 2 (-1)) - 1) M11  h) dX7_areNumbers_46 (fun c17 M16 g18 h => ?_)
        have h := h g18
        refine q_if_eq (tgt := 66) C g18 (by decide) dX7_areNumbers_49 (fun b19 => ?_) (fun b19 => ?_)
        · have h := h.1 b19
          refine q_iconst C dX7_areNumbers_66 ?_
          exact hret 0 M16 _ _ dX7_areNumbers_67 (Or.inl rfl) h
        · have h := h.2 b19
          refine q_iload C 5 rfl dX7_areNumbers_52 ?_
          refine q_iconst C dX7_areNumbers_54 ?_
          refine q_iconst C dX7_areNumbers_55 ?_
          refine q_callSI (As := [.int (gI a5), .int (gI 0), .int (gI 1)]) (st := []) C vX7_84 kX7_in ⟨Nat.le_of_ble_eq_true rfl, Nat.le_of_ble_eq_true rfl⟩ ⟨Nat.le_of_ble_eq_true rfl, Nat.le_of_ble_eq_true rfl⟩ rfl rfl (Nat.le_of_ble_eq_true rfl) (mX7_in l D cy kd ln rh _ a5 0 1 M16  h) dX7_areNumbers_56 (fun c21 M20 g22 h => ?_)
          have h := h g22
          refine q_if_eq (tgt := 66) C g22 (by decide) dX7_areNumbers_59 (fun b23 => ?_) (fun b23 => ?_)
          · have h := h.1 b23
            refine q_iconst C dX7_areNumbers_66 ?_
            exact hret 0 M20 _ _ dX7_areNumbers_67 (Or.inl rfl) h
          · have h := h.2 b23
            refine q_iconst C dX7_areNumbers_62 ?_
            refine q_goto (tgt := 67) C (by decide) dX7_areNumbers_63 ?_
            exact hret 1 M20 _ _ dX7_areNumbers_67 (Or.inr rfl) h
set_option maxHeartbeats 4000000 in
set_option maxRecDepth 100000 in
theorem mX7_isLegal (l : Launch) (D : va_G) (cy : Nat → ClassId) (kd : gKd) (ln : gLn) (rh : gRh) (post : Int → gM → Prop) (a0 : Int) (a1 : Int) (a2 : Int) (a3 : Int) (a4 : Int) (a5 : Int) (M : gM) (hk0 : kd a0 = 7) (h : wX7_isLegal kd ln post a0 a1 a2 a3 a4 a5 M) : gMI l D cy yX7_isLegal cX7_isLegal 6 .boolean 4 100 [.ref (gad a0), .int (gI a1), .int (gI a2), .int (gI a3), .int (gI a4), .int (gI a5)] kd ln rh M post := by
  refine gMI_ofZ (own := RX7) (by decide) rfl (Nat.le_of_ble_eq_true rfl) ?_
  intro p e s m args below meth c A H0 Q C hret
  unfold wX7_isLegal at h
  refine q_aload_n C 0 rfl rfl dX7_isLegal_0 ?_
  refine q_iconst C dX7_isLegal_1 ?_
  refine q_put (x := 0) (ty := .int) C fX7_81 hk0 (fun _ _ _ q => by cases q; rfl) (congrArg (fun z => Value.int (gI z)) gu_s) rfl rfl (show rng 0 by decide) (fun j q => absurd (show (0 : Nat) = j + 3 from q) (by omega)) dX7_isLegal_2 ?_
  refine q_aload_n C 0 rfl rfl dX7_isLegal_5 ?_
  refine q_iload_n C 1 rfl rfl dX7_isLegal_6 ?_
  refine q_iload_n C 2 rfl rfl dX7_isLegal_7 ?_
  refine q_iload_n C 3 rfl rfl dX7_isLegal_8 ?_
  refine q_iload C 4 rfl dX7_isLegal_9 ?_
  refine q_iload C 5 rfl dX7_isLegal_11 ?_
  refine q_callVI (As := [.int (gI a1), .int (gI a2), .int (gI a3), .int (gI a4), .int (gI a5)]) (st := []) C vX7_183 kX7_areNumbers ⟨Nat.le_of_ble_eq_true rfl, Nat.le_of_ble_eq_true rfl⟩ ⟨Nat.le_of_ble_eq_true rfl, Nat.le_of_ble_eq_true rfl⟩ rfl hk0 ⟨_, _, rfl⟩ (by decide) rfl (Nat.le_of_ble_eq_true rfl) (mX7_areNumbers l D cy kd ln rh _ a0 a1 a2 a3 a4 a5 (gu M a0 0 (-1) 0) hk0 h) dX7_isLegal_13 (fun c2 M1 g3 h => ?_)
  have h := h g3
  refine q_if_eq (tgt := 37) C g3 (by decide) dX7_isLegal_16 (fun b4 => ?_) (fun b4 => ?_)
  · have h := h.1 b4
    refine q_iconst C dX7_isLegal_37 ?_
    exact hret 0 M1 _ _ dX7_isLegal_38 (Or.inl rfl) h
  · have h := h.2 b4
    refine q_aload_n C 0 rfl rfl dX7_isLegal_19 ?_
    refine q_iload_n C 1 rfl rfl dX7_isLegal_20 ?_
    refine q_iload_n C 2 rfl rfl dX7_isLegal_21 ?_
    refine q_iload_n C 3 rfl rfl dX7_isLegal_22 ?_
    refine q_iload C 4 rfl dX7_isLegal_23 ?_
    refine q_iload C 5 rfl dX7_isLegal_25 ?_
    refine q_callVI (As := [.int (gI a1), .int (gI a2), .int (gI a3), .int (gI a4), .int (gI a5)]) (st := []) C vX7_107 kX7_legal ⟨Nat.le_of_ble_eq_true rfl, Nat.le_of_ble_eq_true rfl⟩ ⟨Nat.le_of_ble_eq_true rfl, Nat.le_of_ble_eq_true rfl⟩ rfl hk0 ⟨_, _, rfl⟩ (by decide) rfl (Nat.le_of_ble_eq_true rfl) (mX7_legal l D cy kd ln rh _ a0 a1 a2 a3 a4 a5 M1 hk0 h) dX7_isLegal_27 (fun c6 M5 g7 h => ?_)
    have h := h g7
    refine q_if_eq (tgt := 37) C g7 (by decide) dX7_isLegal_30 (fun b8 => ?_) (fun b8 => ?_)
    · have h := h.1 b8
      refine q_iconst C dX7_isLegal_37 ?_
      exact hret 0 M5 _ _ dX7_isLegal_38 (Or.inl rfl) h
    · have h := h.2 b8
      refine q_iconst C dX7_isLegal_33 ?_
      refine q_goto (tgt := 38) C (by decide) dX7_isLegal_34 ?_
      exact hret 1 M5 _ _ dX7_isLegal_38 (Or.inr rfl) h
set_option maxHeartbeats 4000000 in
set_option maxRecDepth 100000 in
theorem mX6_moves (l : Launch) (D : va_G) (cy : Nat → ClassId) (kd : gKd) (ln : gLn) (rh : gRh) (post : Int → gM → Prop) (a0 : Int) (a1 : Int) (a2 : Int) (a3 : Int) (a4 : Int) (a5 : Int) (M : gM) (hk0 : kd a0 = 6) (h : wX6_moves kd ln post a0 a1 a2 a3 a4 a5 M) : gMI l D cy yX6_moves cX6_moves 8 .int 3 72 [.ref (gad a0), .int (gI a1), .int (gI a2), .int (gI a3), .int (gI a4), .int (gI a5)] kd ln rh M post := by
  refine gMI_of (own := RX6) (by decide) rfl (Nat.le_of_ble_eq_true rfl) ?_
  intro p e s m args below meth c A H0 Q C hret
  have t88 : ∀ (x6 : Int) (y0 : Int) (M : gM), wX6_moves_88 kd ln post a0 a1 a2 a3 a4 a5 x6 y0 M → gW p l e (gRm 3 72) s m args below meth c D cy A H0 Q 8 kd ln rh 0 0 M 88 [(0, .ref (gad a0)), (2, .int (gI a2)), (3, .int (gI a3)), (4, .int (gI a4)), (6, .int (gI x6))] [.int (gI y0)] := by
    intro  x6 y0 M h
    unfold wX6_moves_88 at h
    refine q_istore (lv' := [(7, .int (gI y0)), (0, .ref (gad a0)), (2, .int (gI a2)), (3, .int (gI a3)), (4, .int (gI a4)), (6, .int (gI x6))]) C (by decide) rfl dX6_moves_88 ?_
    refine q_aload_n C 1 rfl rfl dX6_moves_90 ?_
    refine q_get (v := gR (M a0 1 (-1))) C fX6_52 hk0 rfl dX6_moves_91 (fun g35 => ?_)
    obtain ⟨r36, h⟩ := h
    refine q_nn r36 (by decide) ?_
    refine q_iload_n C 2 rfl rfl dX6_moves_94 ?_
    refine q_iload_n C 3 rfl rfl dX6_moves_95 ?_
    refine q_iload C 4 rfl dX6_moves_96 ?_
    refine q_callVL (As := [.int (gI a2), .int (gI a3), .int (gI a4)]) (st := []) C vX6_94 kX0_whiteTargets ⟨Nat.le_of_ble_eq_true rfl, Nat.le_of_ble_eq_true rfl⟩ ⟨Nat.le_of_ble_eq_true rfl, Nat.le_of_ble_eq_true rfl⟩ rfl r36 ⟨_, _, rfl⟩ (by decide) rfl (Nat.le_of_ble_eq_true rfl) (mX0_whiteTargets l D cy kd ln rh _ (M a0 1 (-1)) a2 a3 a4 M r36 h) dX6_moves_98 (fun c38 M37 h => ?_)
    refine q_callSI (As := [.long (gL c38)]) (st := []) C vX6_78 kJ13_bitCount_95d88 ⟨Nat.le_of_ble_eq_true rfl, Nat.le_of_ble_eq_true rfl⟩ ⟨Nat.le_of_ble_eq_true rfl, Nat.le_of_ble_eq_true rfl⟩ rfl rfl (Nat.le_of_ble_eq_true rfl) (mJ13_bitCount_95d88 l D cy kd ln rh _ c38 M37  h) dX6_moves_101 (fun c41 M40 g42 h => ?_)
    have h := h g42
    refine q_iload C 0 rfl dX6_moves_104 ?_
    refine q_iload C 5 rfl dX6_moves_106 ?_
    refine q_imul C dX6_moves_108 ?_
    refine q_iadd C dX6_moves_109 ?_
    obtain ⟨r43, h⟩ := h
    exact hret (c41 + (y0 * x6)) M40 _ _ dX6_moves_110 r43 h
  have t87 : ∀ (x6 : Int) (M : gM), wX6_moves_87 kd ln post a0 a1 a2 a3 a4 a5 x6 M → gW p l e (gRm 3 72) s m args below meth c D cy A H0 Q 8 kd ln rh 0 0 M 87 [(0, .ref (gad a0)), (2, .int (gI a2)), (3, .int (gI a3)), (4, .int (gI a4)), (6, .int (gI x6))] [] := by
    intro  x6 M h
    unfold wX6_moves_87 at h
    refine q_iconst C dX6_moves_87 ?_
    exact t88  x6 1 M h
  unfold wX6_moves at h
  refine q_aload_n C 0 rfl rfl dX6_moves_0 ?_
  refine q_get (v := gR (M a0 1 (-1))) C fX6_52 hk0 rfl dX6_moves_1 (fun g1 => ?_)
  obtain ⟨r2, h⟩ := h
  refine q_nn r2 (by decide) ?_
  refine q_iload_n C 1 rfl rfl dX6_moves_4 ?_
  refine q_iload_n C 2 rfl rfl dX6_moves_5 ?_
  refine q_iload_n C 3 rfl rfl dX6_moves_6 ?_
  refine q_iload C 4 rfl dX6_moves_7 ?_
  refine q_iload C 5 rfl dX6_moves_9 ?_
  refine q_callVI (As := [.int (gI a1), .int (gI a2), .int (gI a3), .int (gI a4), .int (gI a5)]) (st := []) C vX6_70 kX0_allows ⟨Nat.le_of_ble_eq_true rfl, Nat.le_of_ble_eq_true rfl⟩ ⟨Nat.le_of_ble_eq_true rfl, Nat.le_of_ble_eq_true rfl⟩ rfl r2 ⟨_, _, rfl⟩ (by decide) rfl (Nat.le_of_ble_eq_true rfl) (mX0_allows l D cy kd ln rh _ (M a0 1 (-1)) a1 a2 a3 a4 a5 M r2 h) dX6_moves_11 (fun c4 M3 g5 h => ?_)
  have h := h g5
  refine q_if_ne (tgt := 19) C g5 (by decide) dX6_moves_14 (fun b6 => ?_) (fun b6 => ?_)
  · have h := h.1 b6
    refine q_iload C 5 rfl dX6_moves_19 ?_
    refine q_iconst C dX6_moves_21 ?_
    obtain ⟨r7, h⟩ := h
    refine q_icmp_ne (tgt := 41) C r7 (show rng 1 by decide) (by decide) dX6_moves_22 (fun b8 => ?_) (fun b8 => ?_)
    · have h := h.1 b8
      refine q_aload_n C 0 rfl rfl dX6_moves_41 ?_
      refine q_get (v := gR (M3 a0 1 (-1))) C fX6_52 hk0 rfl dX6_moves_42 (fun g9 => ?_)
      obtain ⟨r10, h⟩ := h
      refine q_nn r10 (by decide) ?_
      refine q_iload_n C 1 rfl rfl dX6_moves_45 ?_
      refine q_iload_n C 2 rfl rfl dX6_moves_46 ?_
      refine q_iload_n C 3 rfl rfl dX6_moves_47 ?_
      refine q_iload C 4 rfl dX6_moves_48 ?_
      refine q_callVL (As := [.int (gI a1), .int (gI a2), .int (gI a3), .int (gI a4)]) (st := []) C vX6_84 kX0_manTargets ⟨Nat.le_of_ble_eq_true rfl, Nat.le_of_ble_eq_true rfl⟩ ⟨Nat.le_of_ble_eq_true rfl, Nat.le_of_ble_eq_true rfl⟩ rfl r10 ⟨_, _, rfl⟩ (by decide) rfl (Nat.le_of_ble_eq_true rfl) (mX0_manTargets l D cy kd ln rh _ (M3 a0 1 (-1)) a1 a2 a3 a4 M3 r10 h) dX6_moves_50 (fun c12 M11 h => ?_)
      refine q_callSI (As := [.long (gL c12)]) (st := []) C vX6_78 kJ13_bitCount_95d88 ⟨Nat.le_of_ble_eq_true rfl, Nat.le_of_ble_eq_true rfl⟩ ⟨Nat.le_of_ble_eq_true rfl, Nat.le_of_ble_eq_true rfl⟩ rfl rfl (Nat.le_of_ble_eq_true rfl) (mJ13_bitCount_95d88 l D cy kd ln rh _ c12 M11  h) dX6_moves_53 (fun c15 M14 g16 h => ?_)
      have h := h g16
      refine q_istore (lv' := [(6, .int (gI c15)), (0, .ref (gad a0)), (1, .int (gI a1)), (2, .int (gI a2)), (3, .int (gI a3)), (4, .int (gI a4)), (5, .int (gI a5))]) C (by decide) rfl dX6_moves_56 ?_
      refine q_iload_n C 2 rfl rfl dX6_moves_58 ?_
      refine q_iconst C dX6_moves_59 ?_
      obtain ⟨r17, h⟩ := h
      refine q_icmp_ne (tgt := 87) C r17 (show rng 2 by decide) (by decide) dX6_moves_60 (fun b18 => ?_) (fun b18 => ?_)
      · have h := h.1 b18
        refine q_lv (lv' := [(0, .ref (gad a0)), (2, .int (gI a2)), (3, .int (gI a3)), (4, .int (gI a4)), (6, .int (gI c15))]) [1, 3, 4, 5, 0] rfl ?_
        exact t87  c15 M14 h
      · have h := h.2 b18
        refine q_aload_n C 1 rfl rfl dX6_moves_63 ?_
        refine q_get (v := gR (M14 a0 1 (-1))) C fX6_52 hk0 rfl dX6_moves_64 (fun g19 => ?_)
        obtain ⟨r20, h⟩ := h
        refine q_nn r20 (by decide) ?_
        refine q_iload C 5 rfl dX6_moves_67 ?_
        refine q_aload_n C 1 rfl rfl dX6_moves_69 ?_
        refine q_get (v := gR (M14 a0 1 (-1))) C fX6_52 hk0 rfl dX6_moves_70 (fun g21 => ?_)
        refine q_nn r20 (by decide) ?_
        refine q_get (v := .int (gI (M14 (M14 a0 1 (-1)) 0 (-1)))) C fX6_87 r20 rfl dX6_moves_73 (fun g22 => ?_)
        have h := h g22
        refine q_iadd C dX6_moves_76 ?_
        refine q_callVI (As := [.int (gI (a4 + (M14 (M14 a0 1 (-1)) 0 (-1))))]) (st := []) C vX6_90 kX0_isLastRank ⟨Nat.le_of_ble_eq_true rfl, Nat.le_of_ble_eq_true rfl⟩ ⟨Nat.le_of_ble_eq_true rfl, Nat.le_of_ble_eq_true rfl⟩ rfl r20 ⟨_, _, rfl⟩ (by decide) rfl (Nat.le_of_ble_eq_true rfl) (mX0_isLastRank l D cy kd ln rh _ (M14 a0 1 (-1)) (a4 + (M14 (M14 a0 1 (-1)) 0 (-1))) M14 r20 h) dX6_moves_77 (fun c24 M23 g25 h => ?_)
        have h := h g25
        refine q_if_eq (tgt := 87) C g25 (by decide) dX6_moves_80 (fun b26 => ?_) (fun b26 => ?_)
        · have h := h.1 b26
          refine q_lv (lv' := [(0, .ref (gad a0)), (2, .int (gI a2)), (3, .int (gI a3)), (4, .int (gI a4)), (6, .int (gI c15))]) [1, 3, 4, 5, 0] rfl ?_
          exact t87  c15 M23 h
        · have h := h.2 b26
          refine q_iconst C dX6_moves_83 ?_
          refine q_goto (tgt := 88) C (by decide) dX6_moves_84 ?_
          refine q_lv (lv' := [(0, .ref (gad a0)), (2, .int (gI a2)), (3, .int (gI a3)), (4, .int (gI a4)), (6, .int (gI c15))]) [1, 3, 4, 5, 0] rfl ?_
          exact t88  c15 4 M23 h
    · have h := h.2 b8
      refine q_aload_n C 0 rfl rfl dX6_moves_25 ?_
      refine q_get (v := gR (M3 a0 1 (-1))) C fX6_52 hk0 rfl dX6_moves_26 (fun g27 => ?_)
      obtain ⟨r28, h⟩ := h
      refine q_nn r28 (by decide) ?_
      refine q_iload_n C 1 rfl rfl dX6_moves_29 ?_
      refine q_iload_n C 2 rfl rfl dX6_moves_30 ?_
      refine q_iload_n C 3 rfl rfl dX6_moves_31 ?_
      refine q_iload C 4 rfl dX6_moves_32 ?_
      refine q_callVL (As := [.int (gI a1), .int (gI a2), .int (gI a3), .int (gI a4)]) (st := []) C vX6_74 kX0_blackTargets ⟨Nat.le_of_ble_eq_true rfl, Nat.le_of_ble_eq_true rfl⟩ ⟨Nat.le_of_ble_eq_true rfl, Nat.le_of_ble_eq_true rfl⟩ rfl r28 ⟨_, _, rfl⟩ (by decide) rfl (Nat.le_of_ble_eq_true rfl) (mX0_blackTargets l D cy kd ln rh _ (M3 a0 1 (-1)) a1 a2 a3 a4 M3 r28 h) dX6_moves_34 (fun c30 M29 h => ?_)
      refine q_callSI (As := [.long (gL c30)]) (st := []) C vX6_78 kJ13_bitCount_95d88 ⟨Nat.le_of_ble_eq_true rfl, Nat.le_of_ble_eq_true rfl⟩ ⟨Nat.le_of_ble_eq_true rfl, Nat.le_of_ble_eq_true rfl⟩ rfl rfl (Nat.le_of_ble_eq_true rfl) (mJ13_bitCount_95d88 l D cy kd ln rh _ c30 M29  h) dX6_moves_37 (fun c33 M32 g34 h => ?_)
      have h := h g34
      exact hret c33 M32 _ _ dX6_moves_40 g34 h
  · have h := h.2 b6
    refine q_iconst C dX6_moves_17 ?_
    exact hret (-1) M3 _ _ dX6_moves_18 (show rng (-1) by decide) h
set_option maxHeartbeats 4000000 in
set_option maxRecDepth 100000 in
theorem mX7_moves (l : Launch) (D : va_G) (cy : Nat → ClassId) (kd : gKd) (ln : gLn) (rh : gRh) (post : Int → gM → Prop) (a0 : Int) (a1 : Int) (a2 : Int) (a3 : Int) (a4 : Int) (a5 : Int) (M : gM) (hk0 : kd a0 = 7) (h : wX7_moves kd ln post a0 a1 a2 a3 a4 a5 M) : gMI l D cy yX7_moves cX7_moves 6 .int 5 129 [.ref (gad a0), .int (gI a1), .int (gI a2), .int (gI a3), .int (gI a4), .int (gI a5)] kd ln rh M post := by
  refine gMI_of (own := RX7) (by decide) rfl (Nat.le_of_ble_eq_true rfl) ?_
  intro p e s m args below meth c A H0 Q C hret
  unfold wX7_moves at h
  refine q_aload_n C 0 rfl rfl dX7_moves_0 ?_
  refine q_iconst C dX7_moves_1 ?_
  refine q_put (x := 0) (ty := .int) C fX7_81 hk0 (fun _ _ _ q => by cases q; rfl) (congrArg (fun z => Value.int (gI z)) gu_s) rfl rfl (show rng 0 by decide) (fun j q => absurd (show (0 : Nat) = j + 3 from q) (by omega)) dX7_moves_2 ?_
  refine q_aload_n C 0 rfl rfl dX7_moves_5 ?_
  refine q_iload_n C 1 rfl rfl dX7_moves_6 ?_
  refine q_iload_n C 2 rfl rfl dX7_moves_7 ?_
  refine q_iload_n C 3 rfl rfl dX7_moves_8 ?_
  refine q_iload C 4 rfl dX7_moves_9 ?_
  refine q_iload C 5 rfl dX7_moves_11 ?_
  refine q_callVI (As := [.int (gI a1), .int (gI a2), .int (gI a3), .int (gI a4), .int (gI a5)]) (st := []) C vX7_183 kX7_areNumbers ⟨Nat.le_of_ble_eq_true rfl, Nat.le_of_ble_eq_true rfl⟩ ⟨Nat.le_of_ble_eq_true rfl, Nat.le_of_ble_eq_true rfl⟩ rfl hk0 ⟨_, _, rfl⟩ (by decide) rfl (Nat.le_of_ble_eq_true rfl) (mX7_areNumbers l D cy kd ln rh _ a0 a1 a2 a3 a4 a5 (gu M a0 0 (-1) 0) hk0 h) dX7_moves_13 (fun c2 M1 g3 h => ?_)
  have h := h g3
  refine q_if_eq (tgt := 33) C g3 (by decide) dX7_moves_16 (fun b4 => ?_) (fun b4 => ?_)
  · have h := h.1 b4
    refine q_iconst C dX7_moves_33 ?_
    exact hret (-1) M1 _ _ dX7_moves_34 (show rng (-1) by decide) h
  · have h := h.2 b4
    refine q_aload_n C 0 rfl rfl dX7_moves_19 ?_
    refine q_iload_n C 1 rfl rfl dX7_moves_20 ?_
    refine q_iload_n C 2 rfl rfl dX7_moves_21 ?_
    refine q_iload_n C 3 rfl rfl dX7_moves_22 ?_
    refine q_iload C 4 rfl dX7_moves_23 ?_
    refine q_iload C 5 rfl dX7_moves_25 ?_
    refine q_callVI (As := [.int (gI a1), .int (gI a2), .int (gI a3), .int (gI a4), .int (gI a5)]) (st := []) C vX7_107 kX7_legal ⟨Nat.le_of_ble_eq_true rfl, Nat.le_of_ble_eq_true rfl⟩ ⟨Nat.le_of_ble_eq_true rfl, Nat.le_of_ble_eq_true rfl⟩ rfl hk0 ⟨_, _, rfl⟩ (by decide) rfl (Nat.le_of_ble_eq_true rfl) (mX7_legal l D cy kd ln rh _ a0 a1 a2 a3 a4 a5 M1 hk0 h) dX7_moves_27 (fun c6 M5 g7 h => ?_)
    have h := h g7
    refine q_if_ne (tgt := 35) C g7 (by decide) dX7_moves_30 (fun b8 => ?_) (fun b8 => ?_)
    · have h := h.1 b8
      refine q_aload_n C 0 rfl rfl dX7_moves_35 ?_
      refine q_iload_n C 1 rfl rfl dX7_moves_36 ?_
      refine q_iload_n C 2 rfl rfl dX7_moves_37 ?_
      refine q_iload_n C 3 rfl rfl dX7_moves_38 ?_
      refine q_iload C 4 rfl dX7_moves_39 ?_
      refine q_iload C 5 rfl dX7_moves_41 ?_
      refine q_callVV (As := [.int (gI a1), .int (gI a2), .int (gI a3), .int (gI a4), .int (gI a5)]) (st := []) C vX7_138 kX7_find ⟨Nat.le_of_ble_eq_true rfl, Nat.le_of_ble_eq_true rfl⟩ ⟨Nat.le_of_ble_eq_true rfl, Nat.le_of_ble_eq_true rfl⟩ rfl hk0 ⟨_, _, rfl⟩ (by decide) rfl (Nat.le_of_ble_eq_true rfl) (mX7_find l D cy kd ln rh _ a0 a1 a2 a3 a4 a5 M5 hk0 h) dX7_moves_43 (fun M9 h => ?_)
      refine q_aload_n C 0 rfl rfl dX7_moves_46 ?_
      refine q_get (v := .int (gI (M9 a0 12 (-1)))) C fX7_104 hk0 rfl dX7_moves_47 (fun g12 => ?_)
      have h := h g12
      exact hret (M9 a0 12 (-1)) M9 _ _ dX7_moves_50 g12 h
    · have h := h.2 b8
      refine q_iconst C dX7_moves_33 ?_
      exact hret (-1) M5 _ _ dX7_moves_34 (show rng (-1) by decide) h
set_option maxHeartbeats 4000000 in
set_option maxRecDepth 100000 in
theorem mX7_isMade (l : Launch) (D : va_G) (cy : Nat → ClassId) (kd : gKd) (ln : gLn) (rh : gRh) (post : Int → gM → Prop) (a0 : Int) (a1 : Int) (M : gM) (hk0 : kd a0 = 7) (h : wX7_isMade kd ln post a0 a1 M) : gMI l D cy yX7_isMade cX7_isMade 2 .boolean 1 22 [.ref (gad a0), .int (gI a1)] kd ln rh M post := by
  refine gMI_ofZ (own := RX7) (by decide) rfl (Nat.le_of_ble_eq_true rfl) ?_
  intro p e s m args below meth c A H0 Q C hret
  unfold wX7_isMade at h
  refine q_iload_n C 1 rfl rfl dX7_isMade_0 ?_
  refine q_iconst C dX7_isMade_1 ?_
  refine q_iconst C dX7_isMade_2 ?_
  refine q_callSI (As := [.int (gI a1), .int (gI 0), .int (gI 2)]) (st := []) C vX7_84 kX7_in ⟨Nat.le_of_ble_eq_true rfl, Nat.le_of_ble_eq_true rfl⟩ ⟨Nat.le_of_ble_eq_true rfl, Nat.le_of_ble_eq_true rfl⟩ rfl rfl (Nat.le_of_ble_eq_true rfl) (mX7_in l D cy kd ln rh _ a1 0 2 M  h) dX7_isMade_3 (fun c2 M1 g3 h => ?_)
  have h := h g3
  refine q_if_eq (tgt := 22) C g3 (by decide) dX7_isMade_6 (fun b4 => ?_) (fun b4 => ?_)
  · have h := h.1 b4
    refine q_iconst C dX7_isMade_22 ?_
    exact hret 0 M1 _ _ dX7_isMade_23 (Or.inl rfl) h
  · have h := h.2 b4
    refine q_aload_n C 0 rfl rfl dX7_isMade_9 ?_
    obtain ⟨r5, h⟩ := h
    refine q_get (v := .ref (rh a0 3)) C fX7_16 hk0 (if_neg (Int.not_lt.mpr r5)) dX7_isMade_10 (fun g6 => ?_)
    refine q_iload_n C 1 rfl rfl dX7_isMade_13 ?_
    obtain ⟨r7, h⟩ := h
    refine q_zald C hk0 rfl (fun _ q => q) r7 dX7_isMade_14 (fun g8 => ?_)
    have h := h g8
    refine q_if_eq (tgt := 22) C g8 (by decide) dX7_isMade_15 (fun b9 => ?_) (fun b9 => ?_)
    · have h := h.1 b9
      refine q_iconst C dX7_isMade_22 ?_
      exact hret 0 M1 _ _ dX7_isMade_23 (Or.inl rfl) h
    · have h := h.2 b9
      refine q_iconst C dX7_isMade_18 ?_
      refine q_goto (tgt := 23) C (by decide) dX7_isMade_19 ?_
      exact hret 1 M1 _ _ dX7_isMade_23 (Or.inr rfl) h
set_option maxHeartbeats 4000000 in
set_option maxRecDepth 100000 in
theorem mX7_may (l : Launch) (D : va_G) (cy : Nat → ClassId) (kd : gKd) (ln : gLn) (rh : gRh) (post : Int → gM → Prop) (a0 : Int) (a1 : Int) (M : gM) (hk0 : kd a0 = 7) (h : wX7_may kd ln post a0 a1 M) : gMI l D cy yX7_may cX7_may 2 .boolean 0 0 [.ref (gad a0), .int (gI a1)] kd ln rh M post := by
  refine gMI_ofZ (own := RX7) (by decide) rfl (Nat.le_of_ble_eq_true rfl) ?_
  intro p e s m args below meth c A H0 Q C hret
  have t10 : ∀ (y0 : Int) (M : gM), wX7_may_10 kd ln post a0 a1 y0 M → gW p l e (gRm 0 0) s m args below meth c D cy A H0 Q 2 kd ln rh 0 0 M 10 [(1, .int (gI a1))] [.int (gI y0), .ref (gad a0)] := by
    intro  y0 M h
    unfold wX7_may_10 at h
    obtain ⟨r3, h⟩ := h
    refine q_put (x := y0) (ty := .int) C fX7_81 hk0 (fun _ _ _ q => by cases q; rfl) (congrArg (fun z => Value.int (gI z)) gu_s) rfl rfl r3 (fun j q => absurd (show (0 : Nat) = j + 3 from q) (by omega)) dX7_may_10 ?_
    refine q_iload_n C 0 rfl rfl dX7_may_13 ?_
    obtain ⟨r4, h⟩ := h
    exact hret a1 (gu M a0 0 (-1) y0) _ _ dX7_may_14 r4 h
  unfold wX7_may at h
  refine q_aload_n C 0 rfl rfl dX7_may_0 ?_
  refine q_iload_n C 1 rfl rfl dX7_may_1 ?_
  obtain ⟨r1, h⟩ := h
  refine q_if_eq (tgt := 9) C r1 (by decide) dX7_may_2 (fun b2 => ?_) (fun b2 => ?_)
  · have h := h.1 b2
    refine q_iconst C dX7_may_9 ?_
    refine q_lv (lv' := [(1, .int (gI a1))]) [1] rfl ?_
    exact t10  1 M h
  · have h := h.2 b2
    refine q_iconst C dX7_may_5 ?_
    refine q_goto (tgt := 10) C (by decide) dX7_may_6 ?_
    refine q_lv (lv' := [(1, .int (gI a1))]) [1] rfl ?_
    exact t10  0 M h
set_option maxHeartbeats 4000000 in
set_option maxRecDepth 100000 in
theorem mX7_mayAsk (l : Launch) (D : va_G) (cy : Nat → ClassId) (kd : gKd) (ln : gLn) (rh : gRh) (post : Int → gM → Prop) (a0 : Int) (a1 : Int) (a2 : Int) (a3 : Int) (a4 : Int) (a5 : Int) (M : gM) (hk0 : kd a0 = 7) (h : wX7_mayAsk kd ln post a0 a1 a2 a3 a4 a5 M) : gMI l D cy yX7_mayAsk cX7_mayAsk 6 .boolean 4 100 [.ref (gad a0), .int (gI a1), .int (gI a2), .int (gI a3), .int (gI a4), .int (gI a5)] kd ln rh M post := by
  refine gMI_ofZ (own := RX7) (by decide) rfl (Nat.le_of_ble_eq_true rfl) ?_
  intro p e s m args below meth c A H0 Q C hret
  have t41 : ∀ (M : gM), wX7_mayAsk_41 kd ln post a0 a1 a2 a3 a4 a5  M → gW p l e (gRm 4 100) s m args below meth c D cy A H0 Q 6 kd ln rh 0 0 M 41 [] [.ref (gad a0)] := by
    intro   M h
    unfold wX7_mayAsk_41 at h
    refine q_iconst C dX7_mayAsk_41 ?_
    refine q_callVI (As := [.int (gI 0)]) (st := []) C vX7_186 kX7_may ⟨Nat.le_of_ble_eq_true rfl, Nat.le_of_ble_eq_true rfl⟩ ⟨Nat.le_of_ble_eq_true rfl, Nat.le_of_ble_eq_true rfl⟩ rfl hk0 ⟨_, _, rfl⟩ (by decide) rfl (Nat.le_of_ble_eq_true rfl) (mX7_may l D cy kd ln rh _ a0 0 M hk0 h) dX7_mayAsk_42 (fun c18 M17 g19 h => ?_)
    have h := h g19
    obtain ⟨r20, h⟩ := h
    exact hret c18 M17 _ _ dX7_mayAsk_45 r20 h
  unfold wX7_mayAsk at h
  refine q_aload_n C 0 rfl rfl dX7_mayAsk_0 ?_
  refine q_aload_n C 0 rfl rfl dX7_mayAsk_1 ?_
  refine q_iload_n C 1 rfl rfl dX7_mayAsk_2 ?_
  refine q_callVI (As := [.int (gI a1)]) (st := [.ref (gad a0)]) C vX7_179 kX7_isMade ⟨Nat.le_of_ble_eq_true rfl, Nat.le_of_ble_eq_true rfl⟩ ⟨Nat.le_of_ble_eq_true rfl, Nat.le_of_ble_eq_true rfl⟩ rfl hk0 ⟨_, _, rfl⟩ (by decide) rfl (Nat.le_of_ble_eq_true rfl) (mX7_isMade l D cy kd ln rh _ a0 a1 M hk0 h) dX7_mayAsk_3 (fun c2 M1 g3 h => ?_)
  have h := h g3
  refine q_if_eq (tgt := 41) C g3 (by decide) dX7_mayAsk_6 (fun b4 => ?_) (fun b4 => ?_)
  · have h := h.1 b4
    refine q_lv (lv' := []) [] rfl ?_
    exact t41  M1 h
  · have h := h.2 b4
    refine q_aload_n C 0 rfl rfl dX7_mayAsk_9 ?_
    refine q_iload_n C 1 rfl rfl dX7_mayAsk_10 ?_
    refine q_iload_n C 2 rfl rfl dX7_mayAsk_11 ?_
    refine q_iload_n C 3 rfl rfl dX7_mayAsk_12 ?_
    refine q_iload C 4 rfl dX7_mayAsk_13 ?_
    refine q_iload C 5 rfl dX7_mayAsk_15 ?_
    refine q_callVI (As := [.int (gI a1), .int (gI a2), .int (gI a3), .int (gI a4), .int (gI a5)]) (st := [.ref (gad a0)]) C vX7_183 kX7_areNumbers ⟨Nat.le_of_ble_eq_true rfl, Nat.le_of_ble_eq_true rfl⟩ ⟨Nat.le_of_ble_eq_true rfl, Nat.le_of_ble_eq_true rfl⟩ rfl hk0 ⟨_, _, rfl⟩ (by decide) rfl (Nat.le_of_ble_eq_true rfl) (mX7_areNumbers l D cy kd ln rh _ a0 a1 a2 a3 a4 a5 M1 hk0 h) dX7_mayAsk_17 (fun c6 M5 g7 h => ?_)
    have h := h g7
    refine q_if_eq (tgt := 41) C g7 (by decide) dX7_mayAsk_20 (fun b8 => ?_) (fun b8 => ?_)
    · have h := h.1 b8
      refine q_lv (lv' := []) [] rfl ?_
      exact t41  M5 h
    · have h := h.2 b8
      refine q_aload_n C 0 rfl rfl dX7_mayAsk_23 ?_
      refine q_iload_n C 1 rfl rfl dX7_mayAsk_24 ?_
      refine q_iload_n C 2 rfl rfl dX7_mayAsk_25 ?_
      refine q_iload_n C 3 rfl rfl dX7_mayAsk_26 ?_
      refine q_iload C 4 rfl dX7_mayAsk_27 ?_
      refine q_iload C 5 rfl dX7_mayAsk_29 ?_
      refine q_callVI (As := [.int (gI a1), .int (gI a2), .int (gI a3), .int (gI a4), .int (gI a5)]) (st := [.ref (gad a0)]) C vX7_107 kX7_legal ⟨Nat.le_of_ble_eq_true rfl, Nat.le_of_ble_eq_true rfl⟩ ⟨Nat.le_of_ble_eq_true rfl, Nat.le_of_ble_eq_true rfl⟩ rfl hk0 ⟨_, _, rfl⟩ (by decide) rfl (Nat.le_of_ble_eq_true rfl) (mX7_legal l D cy kd ln rh _ a0 a1 a2 a3 a4 a5 M5 hk0 h) dX7_mayAsk_31 (fun c10 M9 g11 h => ?_)
      have h := h g11
      refine q_if_eq (tgt := 41) C g11 (by decide) dX7_mayAsk_34 (fun b12 => ?_) (fun b12 => ?_)
      · have h := h.1 b12
        refine q_lv (lv' := []) [] rfl ?_
        exact t41  M9 h
      · have h := h.2 b12
        refine q_iconst C dX7_mayAsk_37 ?_
        refine q_goto (tgt := 42) C (by decide) dX7_mayAsk_38 ?_
        refine q_callVI (As := [.int (gI 1)]) (st := []) C vX7_186 kX7_may ⟨Nat.le_of_ble_eq_true rfl, Nat.le_of_ble_eq_true rfl⟩ ⟨Nat.le_of_ble_eq_true rfl, Nat.le_of_ble_eq_true rfl⟩ rfl hk0 ⟨_, _, rfl⟩ (by decide) rfl (Nat.le_of_ble_eq_true rfl) (mX7_may l D cy kd ln rh _ a0 1 M9 hk0 h) dX7_mayAsk_42 (fun c14 M13 g15 h => ?_)
        have h := h g15
        obtain ⟨r16, h⟩ := h
        exact hret c14 M13 _ _ dX7_mayAsk_45 r16 h
set_option maxHeartbeats 4000000 in
set_option maxRecDepth 100000 in
theorem mX7_distance (l : Launch) (D : va_G) (cy : Nat → ClassId) (kd : gKd) (ln : gLn) (rh : gRh) (post : Int → gM → Prop) (a0 : Int) (a1 : Int) (a2 : Int) (a3 : Int) (a4 : Int) (a5 : Int) (M : gM) (hk0 : kd a0 = 7) (h : wX7_distance kd ln post a0 a1 a2 a3 a4 a5 M) : gMI l D cy yX7_distance cX7_distance 6 .int 5 125 [.ref (gad a0), .int (gI a1), .int (gI a2), .int (gI a3), .int (gI a4), .int (gI a5)] kd ln rh M post := by
  refine gMI_of (own := RX7) (by decide) rfl (Nat.le_of_ble_eq_true rfl) ?_
  intro p e s m args below meth c A H0 Q C hret
  unfold wX7_distance at h
  refine q_aload_n C 0 rfl rfl dX7_distance_0 ?_
  refine q_iload_n C 1 rfl rfl dX7_distance_1 ?_
  refine q_iload_n C 2 rfl rfl dX7_distance_2 ?_
  refine q_iload_n C 3 rfl rfl dX7_distance_3 ?_
  refine q_iload C 4 rfl dX7_distance_4 ?_
  refine q_iload C 5 rfl dX7_distance_6 ?_
  refine q_callVI (As := [.int (gI a1), .int (gI a2), .int (gI a3), .int (gI a4), .int (gI a5)]) (st := []) C vX7_190 kX7_mayAsk ⟨Nat.le_of_ble_eq_true rfl, Nat.le_of_ble_eq_true rfl⟩ ⟨Nat.le_of_ble_eq_true rfl, Nat.le_of_ble_eq_true rfl⟩ rfl hk0 ⟨_, _, rfl⟩ (by decide) rfl (Nat.le_of_ble_eq_true rfl) (mX7_mayAsk l D cy kd ln rh _ a0 a1 a2 a3 a4 a5 M hk0 h) dX7_distance_8 (fun c2 M1 g3 h => ?_)
  have h := h g3
  refine q_if_eq (tgt := 28) C g3 (by decide) dX7_distance_11 (fun b4 => ?_) (fun b4 => ?_)
  · have h := h.1 b4
    refine q_iconst C dX7_distance_28 ?_
    exact hret 0 M1 _ _ dX7_distance_29 (show rng 0 by decide) h
  · have h := h.2 b4
    refine q_aload_n C 0 rfl rfl dX7_distance_14 ?_
    refine q_iload_n C 1 rfl rfl dX7_distance_15 ?_
    refine q_iload_n C 2 rfl rfl dX7_distance_16 ?_
    refine q_iload_n C 3 rfl rfl dX7_distance_17 ?_
    refine q_iload C 4 rfl dX7_distance_18 ?_
    refine q_iload C 5 rfl dX7_distance_20 ?_
    refine q_callVI (As := [.int (gI a1), .int (gI a2), .int (gI a3), .int (gI a4), .int (gI a5)]) (st := []) C vX7_123 kX7_distanceOf ⟨Nat.le_of_ble_eq_true rfl, Nat.le_of_ble_eq_true rfl⟩ ⟨Nat.le_of_ble_eq_true rfl, Nat.le_of_ble_eq_true rfl⟩ rfl hk0 ⟨_, _, rfl⟩ (by decide) rfl (Nat.le_of_ble_eq_true rfl) (mX7_distanceOf l D cy kd ln rh _ a0 a1 a2 a3 a4 a5 M1 hk0 h) dX7_distance_22 (fun c6 M5 g7 h => ?_)
    have h := h g7
    refine q_goto (tgt := 29) C (by decide) dX7_distance_25 ?_
    exact hret c6 M5 _ _ dX7_distance_29 g7 h
set_option maxHeartbeats 4000000 in
set_option maxRecDepth 100000 in
theorem mX7_thrown (l : Launch) (D : va_G) (cy : Nat → ClassId) (kd : gKd) (ln : gLn) (rh : gRh) (post : Int → gM → Prop) (a0 : Int) (M : gM) (hk0 : kd a0 = 7) (h : wX7_thrown kd ln post a0 M) : gMI l D cy yX7_thrown cX7_thrown 1 .int 0 0 [.ref (gad a0)] kd ln rh M post := by
  refine gMI_of (own := RX7) (by decide) rfl (Nat.le_of_ble_eq_true rfl) ?_
  intro p e s m args below meth c A H0 Q C hret
  unfold wX7_thrown at h
  refine q_aload_n C 0 rfl rfl dX7_thrown_0 ?_
  refine q_get (v := .int (gI (M a0 0 (-1)))) C fX7_81 hk0 rfl dX7_thrown_1 (fun g1 => ?_)
  have h := h g1
  exact hret (M a0 0 (-1)) M _ _ dX7_thrown_4 g1 h
set_option maxHeartbeats 4000000 in
set_option maxRecDepth 100000 in
theorem mX7_isBest (l : Launch) (D : va_G) (cy : Nat → ClassId) (kd : gKd) (ln : gLn) (rh : gRh) (post : Int → gM → Prop) (a0 : Int) (a1 : Int) (a2 : Int) (a3 : Int) (M : gM) (hk0 : kd a0 = 7) (h : wX7_isBest kd ln post a0 a1 a2 a3 M) : gMI l D cy yX7_isBest cX7_isBest 5 .boolean 3 71 [.ref (gad a0), .int (gI a1), .int (gI a2), .int (gI a3)] kd ln rh M post := by
  refine gMI_ofZ (own := RX7) (by decide) rfl (Nat.le_of_ble_eq_true rfl) ?_
  intro p e s m args below meth c A H0 Q C hret
  unfold wX7_isBest at h
  refine q_aload_n C 0 rfl rfl dX7_isBest_0 ?_
  refine q_iload_n C 1 rfl rfl dX7_isBest_1 ?_
  refine q_iload_n C 2 rfl rfl dX7_isBest_2 ?_
  refine q_callVI (As := [.int (gI a1), .int (gI a2)]) (st := []) C vX7_166 kX7_after ⟨Nat.le_of_ble_eq_true rfl, Nat.le_of_ble_eq_true rfl⟩ ⟨Nat.le_of_ble_eq_true rfl, Nat.le_of_ble_eq_true rfl⟩ rfl hk0 ⟨_, _, rfl⟩ (by decide) rfl (Nat.le_of_ble_eq_true rfl) (mX7_after l D cy kd ln rh _ a0 a1 a2 M hk0 h) dX7_isBest_3 (fun c2 M1 g3 h => ?_)
  have h := h g3
  refine q_istore (lv' := [(4, .int (gI c2)), (0, .ref (gad a0)), (1, .int (gI a1)), (2, .int (gI a2)), (3, .int (gI a3))]) C (by decide) rfl dX7_isBest_6 ?_
  refine q_iload_n C 4 rfl rfl dX7_isBest_8 ?_
  refine q_iconst C dX7_isBest_9 ?_
  obtain ⟨r4, h⟩ := h
  refine q_icmp_ne (tgt := 25) C r4 (show rng (-1) by decide) (by decide) dX7_isBest_10 (fun b5 => ?_) (fun b5 => ?_)
  · have h := h.1 b5
    refine q_iload C 0 rfl dX7_isBest_25 ?_
    refine q_iload_n C 4 rfl rfl dX7_isBest_27 ?_
    refine q_iconst C dX7_isBest_28 ?_
    refine q_isub C dX7_isBest_29 ?_
    obtain ⟨r6, h⟩ := h
    refine q_icmp_ne (tgt := 37) C g3 r6 (by decide) dX7_isBest_30 (fun b7 => ?_) (fun b7 => ?_)
    · have h := h.1 b7
      refine q_iconst C dX7_isBest_37 ?_
      exact hret 0 M1 _ _ dX7_isBest_38 (Or.inl rfl) h
    · have h := h.2 b7
      refine q_iconst C dX7_isBest_33 ?_
      refine q_goto (tgt := 38) C (by decide) dX7_isBest_34 ?_
      exact hret 1 M1 _ _ dX7_isBest_38 (Or.inr rfl) h
  · have h := h.2 b5
    refine q_iload C 0 rfl dX7_isBest_13 ?_
    refine q_iconst C dX7_isBest_15 ?_
    refine q_icmp_ne (tgt := 23) C g3 (show rng (-1) by decide) (by decide) dX7_isBest_16 (fun b8 => ?_) (fun b8 => ?_)
    · have h := h.1 b8
      refine q_iconst C dX7_isBest_23 ?_
      exact hret 0 M1 _ _ dX7_isBest_24 (Or.inl rfl) h
    · have h := h.2 b8
      refine q_iconst C dX7_isBest_19 ?_
      refine q_goto (tgt := 24) C (by decide) dX7_isBest_20 ?_
      exact hret 1 M1 _ _ dX7_isBest_24 (Or.inr rfl) h
set_option maxHeartbeats 4000000 in
set_option maxRecDepth 100000 in
theorem mX7_best (l : Launch) (D : va_G) (cy : Nat → ClassId) (kd : gKd) (ln : gLn) (rh : gRh) (post : Int → gM → Prop) (a0 : Int) (a1 : Int) (a2 : Int) (a3 : Int) (a4 : Int) (a5 : Int) (M : gM) (hk0 : kd a0 = 7) (h : wX7_best kd ln post a0 a1 a2 a3 a4 a5 M) : gMI l D cy yX7_best cX7_best 8 .int 5 129 [.ref (gad a0), .int (gI a1), .int (gI a2), .int (gI a3), .int (gI a4), .int (gI a5)] kd ln rh M post := by
  refine gMI_of (own := RX7) (by decide) rfl (Nat.le_of_ble_eq_true rfl) ?_
  intro p e s m args below meth c A H0 Q C hret
  have t145 : ∀ (k48 : Int → Int → gM → Prop), (∀ (x6 : Int), ∀ (x7 : Int), ∀ (M : gM), k48 x6 x7 M → gW p l e (gRm 5 129) s m args below meth c D cy A H0 Q 8 kd ln rh 0 0 M 48 [(0, .ref (gad a0)), (5, .int (gI a5)), (6, .int (gI x6)), (7, .int (gI x7))] []) → ∀ (x6 : Int) (x7 : Int) (M : gM), wX7_best_145 kd ln post a0 a1 a2 a3 a4 a5 k48 x6 x7 M → gW p l e (gRm 5 129) s m args below meth c D cy A H0 Q 8 kd ln rh 0 0 M 145 [(0, .ref (gad a0)), (5, .int (gI a5)), (6, .int (gI x6)), (7, .int (gI x7))] [] := by
    intro k48 hk48_ x6 x7 M h
    unfold wX7_best_145 at h
    refine q_iinc (lv' := [(7, .int (gI (x7 + 1))), (0, .ref (gad a0)), (5, .int (gI a5)), (6, .int (gI x6))]) C 3 rfl (by decide) rfl dX7_best_145 ?_
    refine q_goto (tgt := 48) C (by decide) dX7_best_148 ?_
    refine q_lv (lv' := [(0, .ref (gad a0)), (5, .int (gI a5)), (6, .int (gI x6)), (7, .int (gI (x7 + 1)))]) [1, 2, 3, 0] rfl ?_
    exact hk48_ x6 (x7 + 1) M h
  have t48 : ∀ (n : Nat) (x6 : Int) (x7 : Int) (M : gM), wX7_best_48 kd ln post a0 a1 a2 a3 a4 a5 n x6 x7 M → gW p l e (gRm 5 129) s m args below meth c D cy A H0 Q 8 kd ln rh 0 0 M 48 [(0, .ref (gad a0)), (5, .int (gI a5)), (6, .int (gI x6)), (7, .int (gI x7))] [] := by
    intro n
    induction n with
    | zero => intro x6 x7 M h; exact absurd h (by simp [wX7_best_48])
    | succ n ih =>
      intro x6 x7 M h
      have hk48_ := ih
      rw [wX7_best_48] at h
      refine q_iload C 3 rfl dX7_best_48 ?_
      refine q_aload_n C 0 rfl rfl dX7_best_50 ?_
      refine q_get (v := .int (gI (M a0 12 (-1)))) C fX7_104 hk0 rfl dX7_best_51 (fun g11 => ?_)
      have h := h g11
      obtain ⟨r12, h⟩ := h
      refine q_icmp_ge (tgt := 151) C r12 g11 (by decide) dX7_best_54 (fun b13 => ?_) (fun b13 => ?_)
      · have h := h.1 b13
        refine q_aload_n C 0 rfl rfl dX7_best_151 ?_
        refine q_get (v := .int (gI (M a0 21 (-1)))) C fX7_193 hk0 rfl dX7_best_152 (fun g14 => ?_)
        have h := h g14
        exact hret (M a0 21 (-1)) M _ _ dX7_best_155 g14 h
      · have h := h.2 b13
        refine q_aload_n C 0 rfl rfl dX7_best_57 ?_
        refine q_iload C 3 rfl dX7_best_58 ?_
        refine q_iload C 1 rfl dX7_best_60 ?_
        refine q_iload C 2 rfl dX7_best_62 ?_
        refine q_callVI (As := [.int (gI x7), .int (gI a5), .int (gI x6)]) (st := []) C vX7_196 kX7_isBest ⟨Nat.le_of_ble_eq_true rfl, Nat.le_of_ble_eq_true rfl⟩ ⟨Nat.le_of_ble_eq_true rfl, Nat.le_of_ble_eq_true rfl⟩ rfl hk0 ⟨_, _, rfl⟩ (by decide) rfl (Nat.le_of_ble_eq_true rfl) (mX7_isBest l D cy kd ln rh _ a0 x7 a5 x6 M hk0 h) dX7_best_64 (fun c16 M15 g17 h => ?_)
        have h := h g17
        refine q_if_eq (tgt := 145) C g17 (by decide) dX7_best_67 (fun b18 => ?_) (fun b18 => ?_)
        · have h := h.1 b18
          exact t145 (wX7_best_48 kd ln post a0 a1 a2 a3 a4 a5 n) hk48_ x6 x7 M15 h
        · have h := h.2 b18
          refine q_aload_n C 0 rfl rfl dX7_best_70 ?_
          obtain ⟨r19, h⟩ := h
          refine q_get (v := .ref (rh a0 22)) C fX7_63 hk0 (if_neg (Int.not_lt.mpr r19)) dX7_best_71 (fun g20 => ?_)
          refine q_aload_n C 0 rfl rfl dX7_best_74 ?_
          refine q_get (v := .int (gI (M15 a0 21 (-1)))) C fX7_193 hk0 rfl dX7_best_75 (fun g21 => ?_)
          have h := h g21
          refine q_aload_n C 0 rfl rfl dX7_best_78 ?_
          obtain ⟨r22, h⟩ := h
          refine q_get (v := .ref (rh a0 13)) C fX7_42 hk0 (if_neg (Int.not_lt.mpr r22)) dX7_best_79 (fun g23 => ?_)
          refine q_iload C 3 rfl dX7_best_82 ?_
          obtain ⟨r24, h⟩ := h
          refine q_iald C hk0 rfl (fun _ q => q) r24 dX7_best_84 (fun g25 => ?_)
          have h := h g25
          obtain ⟨r26, h⟩ := h
          refine q_iast C hk0 rfl g25 r26 dX7_best_85 ?_
          refine q_aload_n C 0 rfl rfl dX7_best_86 ?_
          obtain ⟨r27, h⟩ := h
          refine q_get (v := .ref (rh a0 23)) C fX7_66 hk0 (if_neg (Int.not_lt.mpr r27)) dX7_best_87 (fun g28 => ?_)
          refine q_aload_n C 0 rfl rfl dX7_best_90 ?_
          refine q_get (v := .int (gI ((gu M15 a0 22 (M15 a0 21 (-1)) (M15 a0 13 x7)) a0 21 (-1)))) C fX7_193 hk0 rfl dX7_best_91 (fun g29 => ?_)
          have h := h g29
          refine q_aload_n C 0 rfl rfl dX7_best_94 ?_
          obtain ⟨r30, h⟩ := h
          refine q_get (v := .ref (rh a0 14)) C fX7_45 hk0 (if_neg (Int.not_lt.mpr r30)) dX7_best_95 (fun g31 => ?_)
          refine q_iload C 3 rfl dX7_best_98 ?_
          obtain ⟨r32, h⟩ := h
          refine q_iald C hk0 rfl (fun _ q => q) r32 dX7_best_100 (fun g33 => ?_)
          have h := h g33
          obtain ⟨r34, h⟩ := h
          refine q_iast C hk0 rfl g33 r34 dX7_best_101 ?_
          refine q_aload_n C 0 rfl rfl dX7_best_102 ?_
          obtain ⟨r35, h⟩ := h
          refine q_get (v := .ref (rh a0 24)) C fX7_69 hk0 (if_neg (Int.not_lt.mpr r35)) dX7_best_103 (fun g36 => ?_)
          refine q_aload_n C 0 rfl rfl dX7_best_106 ?_
          refine q_get (v := .int (gI ((gu (gu M15 a0 22 (M15 a0 21 (-1)) (M15 a0 13 x7)) a0 23 ((gu M15 a0 22 (M15 a0 21 (-1)) (M15 a0 13 x7)) a0 21 (-1)) ((gu M15 a0 22 (M15 a0 21 (-1)) (M15 a0 13 x7)) a0 14 x7)) a0 21 (-1)))) C fX7_193 hk0 rfl dX7_best_107 (fun g37 => ?_)
          have h := h g37
          refine q_aload_n C 0 rfl rfl dX7_best_110 ?_
          obtain ⟨r38, h⟩ := h
          refine q_get (v := .ref (rh a0 15)) C fX7_48 hk0 (if_neg (Int.not_lt.mpr r38)) dX7_best_111 (fun g39 => ?_)
          refine q_iload C 3 rfl dX7_best_114 ?_
          obtain ⟨r40, h⟩ := h
          refine q_iald C hk0 rfl (fun _ q => q) r40 dX7_best_116 (fun g41 => ?_)
          have h := h g41
          obtain ⟨r42, h⟩ := h
          refine q_iast C hk0 rfl g41 r42 dX7_best_117 ?_
          refine q_aload_n C 0 rfl rfl dX7_best_118 ?_
          obtain ⟨r43, h⟩ := h
          refine q_get (v := .ref (rh a0 25)) C fX7_72 hk0 (if_neg (Int.not_lt.mpr r43)) dX7_best_119 (fun g44 => ?_)
          refine q_aload_n C 0 rfl rfl dX7_best_122 ?_
          refine q_get (v := .int (gI ((gu (gu (gu M15 a0 22 (M15 a0 21 (-1)) (M15 a0 13 x7)) a0 23 ((gu M15 a0 22 (M15 a0 21 (-1)) (M15 a0 13 x7)) a0 21 (-1)) ((gu M15 a0 22 (M15 a0 21 (-1)) (M15 a0 13 x7)) a0 14 x7)) a0 24 ((gu (gu M15 a0 22 (M15 a0 21 (-1)) (M15 a0 13 x7)) a0 23 ((gu M15 a0 22 (M15 a0 21 (-1)) (M15 a0 13 x7)) a0 21 (-1)) ((gu M15 a0 22 (M15 a0 21 (-1)) (M15 a0 13 x7)) a0 14 x7)) a0 21 (-1)) ((gu (gu M15 a0 22 (M15 a0 21 (-1)) (M15 a0 13 x7)) a0 23 ((gu M15 a0 22 (M15 a0 21 (-1)) (M15 a0 13 x7)) a0 21 (-1)) ((gu M15 a0 22 (M15 a0 21 (-1)) (M15 a0 13 x7)) a0 14 x7)) a0 15 x7)) a0 21 (-1)))) C fX7_193 hk0 rfl dX7_best_123 (fun g45 => ?_)
          have h := h g45
          refine q_aload_n C 0 rfl rfl dX7_best_126 ?_
          refine q_iload C 3 rfl dX7_best_127 ?_
          refine q_iload C 1 rfl dX7_best_129 ?_
          refine q_callVI (As := [.int (gI x7), .int (gI a5)]) (st := [.int (gI ((gu (gu (gu M15 a0 22 (M15 a0 21 (-1)) (M15 a0 13 x7)) a0 23 ((gu M15 a0 22 (M15 a0 21 (-1)) (M15 a0 13 x7)) a0 21 (-1)) ((gu M15 a0 22 (M15 a0 21 (-1)) (M15 a0 13 x7)) a0 14 x7)) a0 24 ((gu (gu M15 a0 22 (M15 a0 21 (-1)) (M15 a0 13 x7)) a0 23 ((gu M15 a0 22 (M15 a0 21 (-1)) (M15 a0 13 x7)) a0 21 (-1)) ((gu M15 a0 22 (M15 a0 21 (-1)) (M15 a0 13 x7)) a0 14 x7)) a0 21 (-1)) ((gu (gu M15 a0 22 (M15 a0 21 (-1)) (M15 a0 13 x7)) a0 23 ((gu M15 a0 22 (M15 a0 21 (-1)) (M15 a0 13 x7)) a0 21 (-1)) ((gu M15 a0 22 (M15 a0 21 (-1)) (M15 a0 13 x7)) a0 14 x7)) a0 15 x7)) a0 21 (-1))), .ref (rh a0 25)]) C vX7_166 kX7_after ⟨Nat.le_of_ble_eq_true rfl, Nat.le_of_ble_eq_true rfl⟩ ⟨Nat.le_of_ble_eq_true rfl, Nat.le_of_ble_eq_true rfl⟩ rfl hk0 ⟨_, _, rfl⟩ (by decide) rfl (Nat.le_of_ble_eq_true rfl) (mX7_after l D cy kd ln rh _ a0 x7 a5 (gu (gu (gu M15 a0 22 (M15 a0 21 (-1)) (M15 a0 13 x7)) a0 23 ((gu M15 a0 22 (M15 a0 21 (-1)) (M15 a0 13 x7)) a0 21 (-1)) ((gu M15 a0 22 (M15 a0 21 (-1)) (M15 a0 13 x7)) a0 14 x7)) a0 24 ((gu (gu M15 a0 22 (M15 a0 21 (-1)) (M15 a0 13 x7)) a0 23 ((gu M15 a0 22 (M15 a0 21 (-1)) (M15 a0 13 x7)) a0 21 (-1)) ((gu M15 a0 22 (M15 a0 21 (-1)) (M15 a0 13 x7)) a0 14 x7)) a0 21 (-1)) ((gu (gu M15 a0 22 (M15 a0 21 (-1)) (M15 a0 13 x7)) a0 23 ((gu M15 a0 22 (M15 a0 21 (-1)) (M15 a0 13 x7)) a0 21 (-1)) ((gu M15 a0 22 (M15 a0 21 (-1)) (M15 a0 13 x7)) a0 14 x7)) a0 15 x7)) hk0 h) dX7_best_131 (fun c47 M46 g48 h => ?_)
          have h := h g48
          obtain ⟨r49, h⟩ := h
          refine q_iast C hk0 rfl g48 r49 dX7_best_134 ?_
          refine q_aload_n C 0 rfl rfl dX7_best_135 ?_
          refine q_dup C rfl dX7_best_136 ?_
          refine q_get (v := .int (gI ((gu M46 a0 25 ((gu (gu (gu M15 a0 22 (M15 a0 21 (-1)) (M15 a0 13 x7)) a0 23 ((gu M15 a0 22 (M15 a0 21 (-1)) (M15 a0 13 x7)) a0 21 (-1)) ((gu M15 a0 22 (M15 a0 21 (-1)) (M15 a0 13 x7)) a0 14 x7)) a0 24 ((gu (gu M15 a0 22 (M15 a0 21 (-1)) (M15 a0 13 x7)) a0 23 ((gu M15 a0 22 (M15 a0 21 (-1)) (M15 a0 13 x7)) a0 21 (-1)) ((gu M15 a0 22 (M15 a0 21 (-1)) (M15 a0 13 x7)) a0 14 x7)) a0 21 (-1)) ((gu (gu M15 a0 22 (M15 a0 21 (-1)) (M15 a0 13 x7)) a0 23 ((gu M15 a0 22 (M15 a0 21 (-1)) (M15 a0 13 x7)) a0 21 (-1)) ((gu M15 a0 22 (M15 a0 21 (-1)) (M15 a0 13 x7)) a0 14 x7)) a0 15 x7)) a0 21 (-1)) c47) a0 21 (-1)))) C fX7_193 hk0 rfl dX7_best_137 (fun g50 => ?_)
          have h := h g50
          refine q_iconst C dX7_best_140 ?_
          refine q_iadd C dX7_best_141 ?_
          obtain ⟨r51, h⟩ := h
          refine q_put (x := (((gu M46 a0 25 ((gu (gu (gu M15 a0 22 (M15 a0 21 (-1)) (M15 a0 13 x7)) a0 23 ((gu M15 a0 22 (M15 a0 21 (-1)) (M15 a0 13 x7)) a0 21 (-1)) ((gu M15 a0 22 (M15 a0 21 (-1)) (M15 a0 13 x7)) a0 14 x7)) a0 24 ((gu (gu M15 a0 22 (M15 a0 21 (-1)) (M15 a0 13 x7)) a0 23 ((gu M15 a0 22 (M15 a0 21 (-1)) (M15 a0 13 x7)) a0 21 (-1)) ((gu M15 a0 22 (M15 a0 21 (-1)) (M15 a0 13 x7)) a0 14 x7)) a0 21 (-1)) ((gu (gu M15 a0 22 (M15 a0 21 (-1)) (M15 a0 13 x7)) a0 23 ((gu M15 a0 22 (M15 a0 21 (-1)) (M15 a0 13 x7)) a0 21 (-1)) ((gu M15 a0 22 (M15 a0 21 (-1)) (M15 a0 13 x7)) a0 14 x7)) a0 15 x7)) a0 21 (-1)) c47) a0 21 (-1)) + 1)) (ty := .int) C fX7_193 hk0 (fun _ _ _ q => by cases q; rfl) (congrArg (fun z => Value.int (gI z)) gu_s) rfl rfl r51 (fun j q => absurd (show (0 : Nat) = j + 3 from q) (by omega)) dX7_best_142 ?_
          exact t145 (wX7_best_48 kd ln post a0 a1 a2 a3 a4 a5 n) hk48_ x6 x7 (gu (gu M46 a0 25 ((gu (gu (gu M15 a0 22 (M15 a0 21 (-1)) (M15 a0 13 x7)) a0 23 ((gu M15 a0 22 (M15 a0 21 (-1)) (M15 a0 13 x7)) a0 21 (-1)) ((gu M15 a0 22 (M15 a0 21 (-1)) (M15 a0 13 x7)) a0 14 x7)) a0 24 ((gu (gu M15 a0 22 (M15 a0 21 (-1)) (M15 a0 13 x7)) a0 23 ((gu M15 a0 22 (M15 a0 21 (-1)) (M15 a0 13 x7)) a0 21 (-1)) ((gu M15 a0 22 (M15 a0 21 (-1)) (M15 a0 13 x7)) a0 14 x7)) a0 21 (-1)) ((gu (gu M15 a0 22 (M15 a0 21 (-1)) (M15 a0 13 x7)) a0 23 ((gu M15 a0 22 (M15 a0 21 (-1)) (M15 a0 13 x7)) a0 21 (-1)) ((gu M15 a0 22 (M15 a0 21 (-1)) (M15 a0 13 x7)) a0 14 x7)) a0 15 x7)) a0 21 (-1)) c47) a0 21 (-1) (((gu M46 a0 25 ((gu (gu (gu M15 a0 22 (M15 a0 21 (-1)) (M15 a0 13 x7)) a0 23 ((gu M15 a0 22 (M15 a0 21 (-1)) (M15 a0 13 x7)) a0 21 (-1)) ((gu M15 a0 22 (M15 a0 21 (-1)) (M15 a0 13 x7)) a0 14 x7)) a0 24 ((gu (gu M15 a0 22 (M15 a0 21 (-1)) (M15 a0 13 x7)) a0 23 ((gu M15 a0 22 (M15 a0 21 (-1)) (M15 a0 13 x7)) a0 21 (-1)) ((gu M15 a0 22 (M15 a0 21 (-1)) (M15 a0 13 x7)) a0 14 x7)) a0 21 (-1)) ((gu (gu M15 a0 22 (M15 a0 21 (-1)) (M15 a0 13 x7)) a0 23 ((gu M15 a0 22 (M15 a0 21 (-1)) (M15 a0 13 x7)) a0 21 (-1)) ((gu M15 a0 22 (M15 a0 21 (-1)) (M15 a0 13 x7)) a0 14 x7)) a0 15 x7)) a0 21 (-1)) c47) a0 21 (-1)) + 1)) h
  unfold wX7_best at h
  refine q_aload_n C 0 rfl rfl dX7_best_0 ?_
  refine q_iload_n C 1 rfl rfl dX7_best_1 ?_
  refine q_iload_n C 2 rfl rfl dX7_best_2 ?_
  refine q_iload_n C 3 rfl rfl dX7_best_3 ?_
  refine q_iload C 4 rfl dX7_best_4 ?_
  refine q_iload C 5 rfl dX7_best_6 ?_
  refine q_callVI (As := [.int (gI a1), .int (gI a2), .int (gI a3), .int (gI a4), .int (gI a5)]) (st := []) C vX7_190 kX7_mayAsk ⟨Nat.le_of_ble_eq_true rfl, Nat.le_of_ble_eq_true rfl⟩ ⟨Nat.le_of_ble_eq_true rfl, Nat.le_of_ble_eq_true rfl⟩ rfl hk0 ⟨_, _, rfl⟩ (by decide) rfl (Nat.le_of_ble_eq_true rfl) (mX7_mayAsk l D cy kd ln rh _ a0 a1 a2 a3 a4 a5 M hk0 h) dX7_best_8 (fun c2 M1 g3 h => ?_)
  have h := h g3
  refine q_if_ne (tgt := 16) C g3 (by decide) dX7_best_11 (fun b4 => ?_) (fun b4 => ?_)
  · have h := h.1 b4
    refine q_aload_n C 0 rfl rfl dX7_best_16 ?_
    refine q_iload_n C 1 rfl rfl dX7_best_17 ?_
    refine q_iload_n C 2 rfl rfl dX7_best_18 ?_
    refine q_iload_n C 3 rfl rfl dX7_best_19 ?_
    refine q_iload C 4 rfl dX7_best_20 ?_
    refine q_iload C 5 rfl dX7_best_22 ?_
    refine q_callVI (As := [.int (gI a1), .int (gI a2), .int (gI a3), .int (gI a4), .int (gI a5)]) (st := []) C vX7_123 kX7_distanceOf ⟨Nat.le_of_ble_eq_true rfl, Nat.le_of_ble_eq_true rfl⟩ ⟨Nat.le_of_ble_eq_true rfl, Nat.le_of_ble_eq_true rfl⟩ rfl hk0 ⟨_, _, rfl⟩ (by decide) rfl (Nat.le_of_ble_eq_true rfl) (mX7_distanceOf l D cy kd ln rh _ a0 a1 a2 a3 a4 a5 M1 hk0 h) dX7_best_24 (fun c6 M5 g7 h => ?_)
    have h := h g7
    refine q_istore (lv' := [(6, .int (gI c6)), (0, .ref (gad a0)), (1, .int (gI a1)), (2, .int (gI a2)), (3, .int (gI a3)), (4, .int (gI a4)), (5, .int (gI a5))]) C (by decide) rfl dX7_best_27 ?_
    refine q_aload_n C 1 rfl rfl dX7_best_29 ?_
    refine q_iload_n C 2 rfl rfl dX7_best_30 ?_
    refine q_iload_n C 3 rfl rfl dX7_best_31 ?_
    refine q_iload_n C 4 rfl rfl dX7_best_32 ?_
    refine q_iload C 5 rfl dX7_best_33 ?_
    refine q_iload C 6 rfl dX7_best_35 ?_
    refine q_callVV (As := [.int (gI a1), .int (gI a2), .int (gI a3), .int (gI a4), .int (gI a5)]) (st := []) C vX7_138 kX7_find ⟨Nat.le_of_ble_eq_true rfl, Nat.le_of_ble_eq_true rfl⟩ ⟨Nat.le_of_ble_eq_true rfl, Nat.le_of_ble_eq_true rfl⟩ rfl hk0 ⟨_, _, rfl⟩ (by decide) rfl (Nat.le_of_ble_eq_true rfl) (mX7_find l D cy kd ln rh _ a0 a1 a2 a3 a4 a5 M5 hk0 h) dX7_best_37 (fun M8 h => ?_)
    refine q_aload_n C 1 rfl rfl dX7_best_40 ?_
    refine q_iconst C dX7_best_41 ?_
    refine q_put (x := 0) (ty := .int) C fX7_193 hk0 (fun _ _ _ q => by cases q; rfl) (congrArg (fun z => Value.int (gI z)) gu_s) rfl rfl (show rng 0 by decide) (fun j q => absurd (show (0 : Nat) = j + 3 from q) (by omega)) dX7_best_42 ?_
    refine q_iconst C dX7_best_45 ?_
    refine q_istore (lv' := [(7, .int (gI 0)), (6, .int (gI c6)), (0, .ref (gad a0)), (1, .int (gI a1)), (2, .int (gI a2)), (3, .int (gI a3)), (4, .int (gI a4)), (5, .int (gI a5))]) C (by decide) rfl dX7_best_46 ?_
    refine q_lv (lv' := [(0, .ref (gad a0)), (5, .int (gI a5)), (6, .int (gI c6)), (7, .int (gI 0))]) [2, 7, 1, 0] rfl ?_
    obtain ⟨j48, h⟩ := h
    exact t48  j48 c6 0 (gu M8 a0 21 (-1) 0) h
  · have h := h.2 b4
    refine q_iconst C dX7_best_14 ?_
    exact hret 0 M1 _ _ dX7_best_15 (show rng 0 by decide) h
set_option maxHeartbeats 4000000 in
set_option maxRecDepth 100000 in
theorem mX1_tell (l : Launch) (D : va_G) (cy : Nat → ClassId) (kd : gKd) (ln : gLn) (rh : gRh) (post : Int → gM → Prop) (a0 : Int) (a1 : Int) (a2 : Int) (M : gM) (hk0 : kd a0 = 1) (h : wX1_tell kd ln post a0 a1 a2 M) : gMI l D cy yX1_tell cX1_tell 3 .int 0 0 [.ref (gad a0), .int (gI a1), .int (gI a2)] kd ln rh M post := by
  refine gMI_of (own := RX1) (by decide) rfl (Nat.le_of_ble_eq_true rfl) ?_
  intro p e s m args below meth c A H0 Q C hret
  have t21 : ∀ (M : gM), wX1_tell_21 kd ln post a0 a1 a2  M → gW p l e (gRm 0 0) s m args below meth c D cy A H0 Q 3 kd ln rh 0 0 M 21 [] [] := by
    intro   M h
    unfold wX1_tell_21 at h
    refine q_iconst C dX1_tell_21 ?_
    refine q_goto (tgt := 35) C (by decide) dX1_tell_22 ?_
    exact hret (-1) M _ _ dX1_tell_35 (show rng (-1) by decide) h
  unfold wX1_tell at h
  refine q_iload_n C 1 rfl rfl dX1_tell_0 ?_
  obtain ⟨r1, h⟩ := h
  refine q_if_lt (tgt := 21) C r1 (by decide) dX1_tell_1 (fun b2 => ?_) (fun b2 => ?_)
  · have h := h.1 b2
    refine q_lv (lv' := []) [] rfl ?_
    exact t21  M h
  · have h := h.2 b2
    refine q_iload_n C 1 rfl rfl dX1_tell_4 ?_
    refine q_aload_n C 0 rfl rfl dX1_tell_5 ?_
    refine q_get (v := .int (gI (M a0 0 (-1)))) C fX1_15 hk0 rfl dX1_tell_6 (fun g3 => ?_)
    have h := h g3
    refine q_icmp_ge (tgt := 21) C r1 g3 (by decide) dX1_tell_9 (fun b4 => ?_) (fun b4 => ?_)
    · have h := h.1 b4
      refine q_lv (lv' := []) [] rfl ?_
      exact t21  M h
    · have h := h.2 b4
      refine q_iload_n C 2 rfl rfl dX1_tell_12 ?_
      obtain ⟨r5, h⟩ := h
      refine q_if_lt (tgt := 21) C r5 (by decide) dX1_tell_13 (fun b6 => ?_) (fun b6 => ?_)
      · have h := h.1 b6
        refine q_lv (lv' := []) [] rfl ?_
        exact t21  M h
      · have h := h.2 b6
        refine q_iload_n C 2 rfl rfl dX1_tell_16 ?_
        refine q_iconst C dX1_tell_17 ?_
        refine q_icmp_lt (tgt := 25) C r5 (show rng 4 by decide) (by decide) dX1_tell_18 (fun b7 => ?_) (fun b7 => ?_)
        · have h := h.1 b7
          refine q_aload_n C 0 rfl rfl dX1_tell_25 ?_
          obtain ⟨r8, h⟩ := h
          refine q_get (v := .ref (rh a0 1)) C fX1_11 hk0 (if_neg (Int.not_lt.mpr r8)) dX1_tell_26 (fun g9 => ?_)
          refine q_iload_n C 1 rfl rfl dX1_tell_29 ?_
          refine q_iconst C dX1_tell_30 ?_
          refine q_imul C dX1_tell_31 ?_
          refine q_iload_n C 2 rfl rfl dX1_tell_32 ?_
          refine q_iadd C dX1_tell_33 ?_
          obtain ⟨r10, h⟩ := h
          refine q_iald C hk0 rfl (fun _ q => q) r10 dX1_tell_34 (fun g11 => ?_)
          have h := h g11
          exact hret (M a0 1 ((a1 * 4) + a2)) M _ _ dX1_tell_35 g11 h
        · have h := h.2 b7
          refine q_lv (lv' := []) [] rfl ?_
          exact t21  M h
set_option maxHeartbeats 4000000 in
set_option maxRecDepth 100000 in
theorem mX6_move (l : Launch) (D : va_G) (cy : Nat → ClassId) (kd : gKd) (ln : gLn) (rh : gRh) (post : Int → gM → Prop) (a0 : Int) (a1 : Int) (a2 : Int) (M : gM) (hk0 : kd a0 = 6) (h : wX6_move kd ln post a0 a1 a2 M) : gMI l D cy yX6_move cX6_move 3 .int 1 22 [.ref (gad a0), .int (gI a1), .int (gI a2)] kd ln rh M post := by
  refine gMI_of (own := RX6) (by decide) rfl (Nat.le_of_ble_eq_true rfl) ?_
  intro p e s m args below meth c A H0 Q C hret
  unfold wX6_move at h
  refine q_aload_n C 0 rfl rfl dX6_move_0 ?_
  refine q_get (v := gR (M a0 3 (-1))) C fX6_22 hk0 rfl dX6_move_1 (fun g1 => ?_)
  obtain ⟨r2, h⟩ := h
  refine q_nn r2 (by decide) ?_
  refine q_iload_n C 1 rfl rfl dX6_move_4 ?_
  refine q_iload_n C 2 rfl rfl dX6_move_5 ?_
  refine q_callVI (As := [.int (gI a1), .int (gI a2)]) (st := []) C vX6_123 kX1_tell ⟨Nat.le_of_ble_eq_true rfl, Nat.le_of_ble_eq_true rfl⟩ ⟨Nat.le_of_ble_eq_true rfl, Nat.le_of_ble_eq_true rfl⟩ rfl r2 ⟨_, _, rfl⟩ (by decide) rfl (Nat.le_of_ble_eq_true rfl) (mX1_tell l D cy kd ln rh _ (M a0 3 (-1)) a1 a2 M r2 h) dX6_move_6 (fun c4 M3 g5 h => ?_)
  have h := h g5
  exact hret c4 M3 _ _ dX6_move_9 g5 h
set_option maxHeartbeats 4000000 in
set_option maxRecDepth 100000 in
theorem mX7_move (l : Launch) (D : va_G) (cy : Nat → ClassId) (kd : gKd) (ln : gLn) (rh : gRh) (post : Int → gM → Prop) (a0 : Int) (a1 : Int) (a2 : Int) (M : gM) (hk0 : kd a0 = 7) (h : wX7_move kd ln post a0 a1 a2 M) : gMI l D cy yX7_move cX7_move 3 .int 1 22 [.ref (gad a0), .int (gI a1), .int (gI a2)] kd ln rh M post := by
  refine gMI_of (own := RX7) (by decide) rfl (Nat.le_of_ble_eq_true rfl) ?_
  intro p e s m args below meth c A H0 Q C hret
  unfold wX7_move at h
  refine q_aload_n C 0 rfl rfl dX7_move_0 ?_
  refine q_iconst C dX7_move_1 ?_
  refine q_put (x := 0) (ty := .int) C fX7_81 hk0 (fun _ _ _ q => by cases q; rfl) (congrArg (fun z => Value.int (gI z)) gu_s) rfl rfl (show rng 0 by decide) (fun j q => absurd (show (0 : Nat) = j + 3 from q) (by omega)) dX7_move_2 ?_
  refine q_iload_n C 1 rfl rfl dX7_move_5 ?_
  refine q_iconst C dX7_move_6 ?_
  refine q_aload_n C 0 rfl rfl dX7_move_7 ?_
  refine q_get (v := .int (gI ((gu M a0 0 (-1) 0) a0 21 (-1)))) C fX7_193 hk0 rfl dX7_move_8 (fun g1 => ?_)
  have h := h g1
  refine q_iconst C dX7_move_11 ?_
  refine q_isub C dX7_move_12 ?_
  refine q_callSI (As := [.int (gI a1), .int (gI 0), .int (gI (((gu M a0 0 (-1) 0) a0 21 (-1)) - 1))]) (st := []) C vX7_84 kX7_in ⟨Nat.le_of_ble_eq_true rfl, Nat.le_of_ble_eq_true rfl⟩ ⟨Nat.le_of_ble_eq_true rfl, Nat.le_of_ble_eq_true rfl⟩ rfl rfl (Nat.le_of_ble_eq_true rfl) (mX7_in l D cy kd ln rh _ a1 0 (((gu M a0 0 (-1) 0) a0 21 (-1)) - 1) (gu M a0 0 (-1) 0)  h) dX7_move_13 (fun c3 M2 g4 h => ?_)
  have h := h g4
  refine q_if_ne (tgt := 21) C g4 (by decide) dX7_move_16 (fun b5 => ?_) (fun b5 => ?_)
  · have h := h.1 b5
    refine q_iload_n C 2 rfl rfl dX7_move_21 ?_
    obtain ⟨r6, h⟩ := h
    refine q_if_ne (tgt := 34) C r6 (by decide) dX7_move_22 (fun b7 => ?_) (fun b7 => ?_)
    · have h := h.1 b7
      refine q_iload_n C 2 rfl rfl dX7_move_34 ?_
      refine q_iconst C dX7_move_35 ?_
      refine q_icmp_ne (tgt := 48) C r6 (show rng 1 by decide) (by decide) dX7_move_36 (fun b8 => ?_) (fun b8 => ?_)
      · have h := h.1 b8
        refine q_iload_n C 2 rfl rfl dX7_move_48 ?_
        refine q_iconst C dX7_move_49 ?_
        refine q_icmp_ne (tgt := 62) C r6 (show rng 2 by decide) (by decide) dX7_move_50 (fun b9 => ?_) (fun b9 => ?_)
        · have h := h.1 b9
          refine q_iload_n C 2 rfl rfl dX7_move_62 ?_
          refine q_iconst C dX7_move_63 ?_
          refine q_icmp_ne (tgt := 76) C r6 (show rng 3 by decide) (by decide) dX7_move_64 (fun b10 => ?_) (fun b10 => ?_)
          · have h := h.1 b10
            refine q_iconst C dX7_move_76 ?_
            exact hret (-1) M2 _ _ dX7_move_77 (show rng (-1) by decide) h
          · have h := h.2 b10
            refine q_aload_n C 0 rfl rfl dX7_move_67 ?_
            obtain ⟨r11, h⟩ := h
            refine q_get (v := .ref (rh a0 25)) C fX7_72 hk0 (if_neg (Int.not_lt.mpr r11)) dX7_move_68 (fun g12 => ?_)
            refine q_iload_n C 1 rfl rfl dX7_move_71 ?_
            obtain ⟨r13, h⟩ := h
            refine q_iald C hk0 rfl (fun _ q => q) r13 dX7_move_72 (fun g14 => ?_)
            have h := h g14
            refine q_goto (tgt := 77) C (by decide) dX7_move_73 ?_
            exact hret (M2 a0 25 a1) M2 _ _ dX7_move_77 g14 h
        · have h := h.2 b9
          refine q_aload_n C 0 rfl rfl dX7_move_53 ?_
          obtain ⟨r15, h⟩ := h
          refine q_get (v := .ref (rh a0 24)) C fX7_69 hk0 (if_neg (Int.not_lt.mpr r15)) dX7_move_54 (fun g16 => ?_)
          refine q_iload_n C 1 rfl rfl dX7_move_57 ?_
          obtain ⟨r17, h⟩ := h
          refine q_iald C hk0 rfl (fun _ q => q) r17 dX7_move_58 (fun g18 => ?_)
          have h := h g18
          refine q_goto (tgt := 77) C (by decide) dX7_move_59 ?_
          exact hret (M2 a0 24 a1) M2 _ _ dX7_move_77 g18 h
      · have h := h.2 b8
        refine q_aload_n C 0 rfl rfl dX7_move_39 ?_
        obtain ⟨r19, h⟩ := h
        refine q_get (v := .ref (rh a0 23)) C fX7_66 hk0 (if_neg (Int.not_lt.mpr r19)) dX7_move_40 (fun g20 => ?_)
        refine q_iload_n C 1 rfl rfl dX7_move_43 ?_
        obtain ⟨r21, h⟩ := h
        refine q_iald C hk0 rfl (fun _ q => q) r21 dX7_move_44 (fun g22 => ?_)
        have h := h g22
        refine q_goto (tgt := 77) C (by decide) dX7_move_45 ?_
        exact hret (M2 a0 23 a1) M2 _ _ dX7_move_77 g22 h
    · have h := h.2 b7
      refine q_aload_n C 0 rfl rfl dX7_move_25 ?_
      obtain ⟨r23, h⟩ := h
      refine q_get (v := .ref (rh a0 22)) C fX7_63 hk0 (if_neg (Int.not_lt.mpr r23)) dX7_move_26 (fun g24 => ?_)
      refine q_iload_n C 1 rfl rfl dX7_move_29 ?_
      obtain ⟨r25, h⟩ := h
      refine q_iald C hk0 rfl (fun _ q => q) r25 dX7_move_30 (fun g26 => ?_)
      have h := h g26
      refine q_goto (tgt := 77) C (by decide) dX7_move_31 ?_
      exact hret (M2 a0 22 a1) M2 _ _ dX7_move_77 g26 h
  · have h := h.2 b5
    refine q_iconst C dX7_move_19 ?_
    exact hret (-1) M2 _ _ dX7_move_20 (show rng (-1) by decide) h
