set_option maxHeartbeats 4000000 in
set_option maxRecDepth 100000 in
theorem mX0_init (l : Launch) (D : va_G) (cy : Nat → ClassId) (mc ms : Nat) (kd : gKd) (ln : gLn) (rh : gRh) (post : gKd → gLn → gM → Prop) (a0 : Int) (a1 : Int) (M : gM) (hk0 : kd a0 = 0) (h : wX0_init mc ms kd ln post a0 a1 M) : gXV l D cy yX0_init cX0_init 4 4 99 mc ms [.ref (gad a0), .int (gI a1)] kd ln rh M post := by
  refine gXV_of (own := RX0) (by decide) rfl (Nat.le_of_ble_eq_true rfl) ?_
  intro p e s m args below meth c A H0 Q C hin hret
  have t104 : ∀ (k97 : gKd → gLn → Nat → Nat → Int → gM → Prop), (∀ (kd_ : gKd) (ln_ : gLn) (rh_ : gRh) (c_ s_ : Nat) (kp_ : gKp kd ln rh kd_ ln_ rh_), ∀ (x2 : Int), ∀ (M : gM), k97 kd_ ln_ c_ s_ x2 M → gW p l e (gRx 4 99 mc ms) s m args below meth c D cy A H0 Q 4 kd_ ln_ rh_ c_ s_ M 97 [(0, .ref (gad a0)), (1, .int (gI a1)), (2, .int (gI x2))] []) → ∀ (n : Nat) (kd_ : gKd) (ln_ : gLn) (rh_ : gRh) (c_ s_ : Nat) (kp_ : gKp kd ln rh kd_ ln_ rh_) (x2 : Int) (x3 : Int) (M : gM), wX0_init_104 mc ms post a0 a1 k97 n kd_ ln_ c_ s_ x2 x3 M → gW p l e (gRx 4 99 mc ms) s m args below meth c D cy A H0 Q 4 kd_ ln_ rh_ c_ s_ M 104 [(0, .ref (gad a0)), (1, .int (gI a1)), (2, .int (gI x2)), (3, .int (gI x3))] [] := by
    intro k97 hk97_
    intro n
    induction n with
    | zero => intro kd_ ln_ rh_ c_ s_ kp_ x2 x3 M h; exact absurd h (by simp [wX0_init_104])
    | succ n ih =>
      intro kd_ ln_ rh_ c_ s_ kp_ x2 x3 M h
      have hk104_ := ih
      rw [wX0_init_104] at h
      obtain ⟨r69, h⟩ := h
      refine q_iload_n C 3 rfl rfl dX0_init_104 ?_
      refine q_iload_n C 1 rfl rfl dX0_init_105 ?_
      obtain ⟨r70, h⟩ := h
      obtain ⟨r71, h⟩ := h
      refine q_icmp_ge (tgt := 127) C r70 r71 (by decide) dX0_init_106 (fun b72 => ?_) (fun b72 => ?_)
      · have h := h.1 b72
        refine q_iinc (lv' := [(2, .int (gI (x2 + 1))), (0, .ref (gad a0)), (1, .int (gI a1)), (3, .int (gI x3))]) C 2 rfl (by decide) rfl dX0_init_127 ?_
        refine q_goto (tgt := 97) C (by decide) dX0_init_130 ?_
        refine q_lv (lv' := [(0, .ref (gad a0)), (1, .int (gI a1)), (2, .int (gI (x2 + 1)))]) [1, 2, 0] rfl ?_
        exact hk97_ kd_ ln_ rh_ c_ s_ kp_ (x2 + 1) M h
      · have h := h.2 b72
        refine q_aload_n C 0 rfl rfl dX0_init_109 ?_
        refine q_aload_n C 0 rfl rfl dX0_init_110 ?_
        refine q_iload_n C 2 rfl rfl dX0_init_111 ?_
        refine q_iload_n C 3 rfl rfl dX0_init_112 ?_
        refine q_callVI (As := [.int (gI x2), .int (gI x3)]) (st := [.ref (gad a0)]) C vX0_46 kX0_squareAt r69 ⟨Nat.le_of_ble_eq_true rfl, Nat.le_of_ble_eq_true rfl⟩ rfl (gKp_k kp_ hk0 (by decide)) ⟨_, _, rfl⟩ (by decide) rfl (Nat.le_of_ble_eq_true rfl) (mX0_squareAt l D cy kd_ ln_ rh_ _ a0 x2 x3 M (gKp_k kp_ hk0 (by decide)) h) dX0_init_113 (fun c74 M73 g75 h => ?_)
        have h := h g75
        refine q_iload_n C 2 rfl rfl dX0_init_116 ?_
        refine q_iload_n C 3 rfl rfl dX0_init_117 ?_
        refine q_callVV (As := [.int (gI c74), .int (gI x2), .int (gI x3)]) (st := []) C vX0_50 kX0_enter r69 ⟨Nat.le_of_ble_eq_true rfl, Nat.le_of_ble_eq_true rfl⟩ rfl (gKp_k kp_ hk0 (by decide)) ⟨_, _, rfl⟩ (by decide) rfl (Nat.le_of_ble_eq_true rfl) (mX0_enter l D cy kd_ ln_ rh_ _ a0 c74 x2 x3 M73 (gKp_k kp_ hk0 (by decide)) h) dX0_init_118 (fun M76 h => ?_)
        refine q_iinc (lv' := [(3, .int (gI (x3 + 1))), (0, .ref (gad a0)), (1, .int (gI a1)), (2, .int (gI x2))]) C 3 rfl (by decide) rfl dX0_init_121 ?_
        refine q_goto (tgt := 104) C (by decide) dX0_init_124 ?_
        refine q_lv (lv' := [(0, .ref (gad a0)), (1, .int (gI a1)), (2, .int (gI x2)), (3, .int (gI (x3 + 1)))]) [1, 2, 3, 0] rfl ?_
        exact hk104_ kd_ ln_ rh_ c_ s_ kp_ x2 (x3 + 1) M76 h
  have t97 : ∀ (n : Nat) (kd_ : gKd) (ln_ : gLn) (rh_ : gRh) (c_ s_ : Nat) (kp_ : gKp kd ln rh kd_ ln_ rh_) (x2 : Int) (M : gM), wX0_init_97 mc ms post a0 a1 n kd_ ln_ c_ s_ x2 M → gW p l e (gRx 4 99 mc ms) s m args below meth c D cy A H0 Q 4 kd_ ln_ rh_ c_ s_ M 97 [(0, .ref (gad a0)), (1, .int (gI a1)), (2, .int (gI x2))] [] := by
    intro n
    induction n with
    | zero => intro kd_ ln_ rh_ c_ s_ kp_ x2 M h; exact absurd h (by simp [wX0_init_97])
    | succ n ih =>
      intro kd_ ln_ rh_ c_ s_ kp_ x2 M h
      have hk97_ := ih
      rw [wX0_init_97] at h
      obtain ⟨r65, h⟩ := h
      refine q_iload_n C 2 rfl rfl dX0_init_97 ?_
      refine q_iload_n C 1 rfl rfl dX0_init_98 ?_
      obtain ⟨r66, h⟩ := h
      obtain ⟨r67, h⟩ := h
      refine q_icmp_ge (tgt := 133) C r66 r67 (by decide) dX0_init_99 (fun b68 => ?_) (fun b68 => ?_)
      · have h := h.1 b68
        exact hret kd_ ln_ rh_ M _ _ _ _ r65.1 r65.2 kp_ dX0_init_133 h
      · have h := h.2 b68
        refine q_iconst C dX0_init_102 ?_
        refine q_istore_n (lv' := [(3, .int (gI 0)), (0, .ref (gad a0)), (1, .int (gI a1)), (2, .int (gI x2))]) C rfl (by decide) rfl dX0_init_103 ?_
        refine q_lv (lv' := [(0, .ref (gad a0)), (1, .int (gI a1)), (2, .int (gI x2)), (3, .int (gI 0))]) [1, 2, 3, 0] rfl ?_
        obtain ⟨j104, h⟩ := h
        exact t104 (wX0_init_97 mc ms post a0 a1 n) hk97_ j104 kd_ ln_ rh_ c_ s_ kp_ x2 0 M h
  unfold wX0_init at h
  refine q_aload_n C 0 rfl rfl dX0_init_0 ?_
  refine q_objInit (o := a0) C obX0_3 (Nat.le_of_ble_eq_true rfl) (Nat.le_of_ble_eq_true rfl) dX0_init_1 ?_
  refine q_aload_n C 0 rfl rfl dX0_init_4 ?_
  refine q_iconst C dX0_init_5 ?_
  obtain ⟨r1, h⟩ := h
  obtain ⟨r2, h⟩ := h
  refine q_anewput (t0 := 5) (t := 13) C hin fX0_11 (fun _ _ _ q => by cases q; rfl) hk0 rfl rfl (fun _ _ _ _ => rfl) awX0_9 rfl (fun _ _ _ q => by cases q; rfl) r1 (show 0 ≤ (3 : Int) ∧ (3 : Int) ≤ 67108864 by decide) r2.1 r2.2 dX0_init_6 dX0_init_9 (fun ln3 rh4 e5 kn6 => ?_)
  have h := h ln3 e5
  have kp7 := gKp_t gKp_r kn6
  refine q_aload_n C 0 rfl rfl dX0_init_12 ?_
  refine q_iload_n C 1 rfl rfl dX0_init_13 ?_
  obtain ⟨r8, h⟩ := h
  refine q_putF (x := a1) (ty := .int) C hin fX0_17 (fun _ _ _ q => by cases q; rfl) (gKp_k kn6 hk0 (by decide)) (fun _ _ _ q => by cases q; rfl) (congrArg (fun z => Value.int (gI z)) gu_s) rfl rfl r8 (fun j q => absurd (show (0 : Nat) = j + 3 from q) (by omega)) dX0_init_14 ?_
  refine q_aload_n C 0 rfl rfl dX0_init_17 ?_
  refine q_iload_n C 1 rfl rfl dX0_init_18 ?_
  refine q_iload_n C 1 rfl rfl dX0_init_19 ?_
  refine q_imul C dX0_init_20 ?_
  obtain ⟨r9, h⟩ := h
  refine q_putF (x := (a1 * a1)) (ty := .int) C hin fX0_21 (fun _ _ _ q => by cases q; rfl) (gKp_k kn6 hk0 (by decide)) (fun _ _ _ q => by cases q; rfl) (congrArg (fun z => Value.int (gI z)) gu_s) rfl rfl r9 (fun j q => absurd (show (0 : Nat) = j + 3 from q) (by omega)) dX0_init_21 ?_
  refine q_aload_n C 0 rfl rfl dX0_init_24 ?_
  refine q_aload_n C 0 rfl rfl dX0_init_25 ?_
  refine q_get (v := .int (gI ((gu (gu (gza M a0 5) a0 0 (-1) a1) a0 1 (-1) (a1 * a1)) a0 1 (-1)))) C fX0_21 (gKp_k kn6 hk0 (by decide)) rfl dX0_init_26 (fun g10 => ?_)
  have h := h g10
  obtain ⟨r11, h⟩ := h
  obtain ⟨r12, h⟩ := h
  obtain ⟨r13, h⟩ := h
  refine q_newput (t0 := 0) (ty := .int) C hin fX0_24 (fun _ _ _ q => by cases q; rfl) (gKp_k kn6 hk0 (by decide)) rfl rfl ac8 rfl (fun _ => rfl) (fun _ _ _ => rfl) (fun _ _ _ q => by cases q; rfl) r11 r12 (by decide) r13.1 r13.2 dX0_init_29 dX0_init_31 (fun ln14 rh15 e16 kn17 => ?_)
  have h := h ln14 e16
  have kp18 := gKp_t kp7 kn17
  refine q_aload_n C 0 rfl rfl dX0_init_34 ?_
  refine q_aload_n C 0 rfl rfl dX0_init_35 ?_
  refine q_get (v := .int (gI ((gza (gu (gu (gza M a0 5) a0 0 (-1) a1) a0 1 (-1) (a1 * a1)) a0 2) a0 1 (-1)))) C fX0_21 (gKp_k kn17 (gKp_k kn6 hk0 (by decide)) (by decide)) rfl dX0_init_36 (fun g19 => ?_)
  have h := h g19
  obtain ⟨r20, h⟩ := h
  obtain ⟨r21, h⟩ := h
  obtain ⟨r22, h⟩ := h
  refine q_newput (t0 := 0) (ty := .int) C hin fX0_28 (fun _ _ _ q => by cases q; rfl) (gKp_k kn17 (gKp_k kn6 hk0 (by decide)) (by decide)) rfl rfl ac8 rfl (fun _ => rfl) (fun _ _ _ => rfl) (fun _ _ _ q => by cases q; rfl) r20 r21 (by decide) r22.1 r22.2 dX0_init_39 dX0_init_41 (fun ln23 rh24 e25 kn26 => ?_)
  have h := h ln23 e25
  have kp27 := gKp_t kp18 kn26
  refine q_aload_n C 0 rfl rfl dX0_init_44 ?_
  refine q_aload_n C 0 rfl rfl dX0_init_45 ?_
  refine q_get (v := .int (gI ((gza (gza (gu (gu (gza M a0 5) a0 0 (-1) a1) a0 1 (-1) (a1 * a1)) a0 2) a0 3) a0 1 (-1)))) C fX0_21 (gKp_k kn26 (gKp_k kn17 (gKp_k kn6 hk0 (by decide)) (by decide)) (by decide)) rfl dX0_init_46 (fun g28 => ?_)
  have h := h g28
  obtain ⟨r29, h⟩ := h
  obtain ⟨r30, h⟩ := h
  obtain ⟨r31, h⟩ := h
  refine q_newput (t0 := 3) (ty := .long) C hin fX0_31 (fun _ _ _ q => by cases q; rfl) (gKp_k kn26 (gKp_k kn17 (gKp_k kn6 hk0 (by decide)) (by decide)) (by decide)) rfl rfl ac11 rfl (fun _ => rfl) (fun _ _ _ => rfl) (fun _ _ _ q => by cases q; rfl) r29 r30 (by decide) r31.1 r31.2 dX0_init_49 dX0_init_51 (fun ln32 rh33 e34 kn35 => ?_)
  have h := h ln32 e34
  have kp36 := gKp_t kp27 kn35
  refine q_aload_n C 0 rfl rfl dX0_init_54 ?_
  refine q_iconst C dX0_init_55 ?_
  refine q_aload_n C 0 rfl rfl dX0_init_56 ?_
  refine q_get (v := .int (gI ((gza (gza (gza (gu (gu (gza M a0 5) a0 0 (-1) a1) a0 1 (-1) (a1 * a1)) a0 2) a0 3) a0 6) a0 1 (-1)))) C fX0_21 (gKp_k kn35 (gKp_k kn26 (gKp_k kn17 (gKp_k kn6 hk0 (by decide)) (by decide)) (by decide)) (by decide)) rfl dX0_init_57 (fun g37 => ?_)
  have h := h g37
  obtain ⟨r38, h⟩ := h
  obtain ⟨r39, h⟩ := h
  obtain ⟨r40, h⟩ := h
  refine q_multi C hin fX0_37 (fun _ _ _ q => by cases q; rfl) (gKp_k kn35 (gKp_k kn26 (gKp_k kn17 (gKp_k kn6 hk0 (by decide)) (by decide)) (by decide)) (by decide)) (fun _ _ _ q => by cases q; rfl) muX0_35.1 muX0_35.2 ac11 r38 r39 r40.1 r40.2 dX0_init_60 dX0_init_64 (fun ln41 rh42 e43 kn44 => ?_)
  have h := h ln41 e43
  have kp45 := gKp_t kp36 kn44
  refine q_aload_n C 0 rfl rfl dX0_init_67 ?_
  refine q_aload_n C 0 rfl rfl dX0_init_68 ?_
  refine q_get (v := .int (gI ((gza (gza (gza (gza (gza (gza (gza (gu (gu (gza M a0 5) a0 0 (-1) a1) a0 1 (-1) (a1 * a1)) a0 2) a0 3) a0 6) a0 100) a0 101) a0 102) a0 7) a0 1 (-1)))) C fX0_21 (gKp_k kn44 (gKp_k kn35 (gKp_k kn26 (gKp_k kn17 (gKp_k kn6 hk0 (by decide)) (by decide)) (by decide)) (by decide)) (by decide)) rfl dX0_init_69 (fun g46 => ?_)
  have h := h g46
  refine q_aload_n C 0 rfl rfl dX0_init_72 ?_
  refine q_get (v := .int (gI ((gza (gza (gza (gza (gza (gza (gza (gu (gu (gza M a0 5) a0 0 (-1) a1) a0 1 (-1) (a1 * a1)) a0 2) a0 3) a0 6) a0 100) a0 101) a0 102) a0 7) a0 1 (-1)))) C fX0_21 (gKp_k kn44 (gKp_k kn35 (gKp_k kn26 (gKp_k kn17 (gKp_k kn6 hk0 (by decide)) (by decide)) (by decide)) (by decide)) (by decide)) rfl dX0_init_73 (fun g47 => ?_)
  refine q_imul C dX0_init_76 ?_
  obtain ⟨r48, h⟩ := h
  obtain ⟨r49, h⟩ := h
  obtain ⟨r50, h⟩ := h
  refine q_newput (t0 := 3) (ty := .long) C hin fX0_40 (fun _ _ _ q => by cases q; rfl) (gKp_k kn44 (gKp_k kn35 (gKp_k kn26 (gKp_k kn17 (gKp_k kn6 hk0 (by decide)) (by decide)) (by decide)) (by decide)) (by decide)) rfl rfl ac11 rfl (fun _ => rfl) (fun _ _ _ => rfl) (fun _ _ _ q => by cases q; rfl) r48 r49 (by decide) r50.1 r50.2 dX0_init_77 dX0_init_79 (fun ln51 rh52 e53 kn54 => ?_)
  have h := h ln51 e53
  have kp55 := gKp_t kp45 kn54
  refine q_aload_n C 0 rfl rfl dX0_init_82 ?_
  refine q_bipush C (by decide) dX0_init_83 ?_
  refine q_aload_n C 0 rfl rfl dX0_init_85 ?_
  refine q_get (v := .int (gI ((gza (gza (gza (gza (gza (gza (gza (gza (gu (gu (gza M a0 5) a0 0 (-1) a1) a0 1 (-1) (a1 * a1)) a0 2) a0 3) a0 6) a0 100) a0 101) a0 102) a0 7) a0 8) a0 1 (-1)))) C fX0_21 (gKp_k kn54 (gKp_k kn44 (gKp_k kn35 (gKp_k kn26 (gKp_k kn17 (gKp_k kn6 hk0 (by decide)) (by decide)) (by decide)) (by decide)) (by decide)) (by decide)) rfl dX0_init_86 (fun g56 => ?_)
  have h := h g56
  refine q_imul C dX0_init_89 ?_
  obtain ⟨r57, h⟩ := h
  obtain ⟨r58, h⟩ := h
  obtain ⟨r59, h⟩ := h
  refine q_newput (t0 := 0) (ty := .int) C hin fX0_43 (fun _ _ _ q => by cases q; rfl) (gKp_k kn54 (gKp_k kn44 (gKp_k kn35 (gKp_k kn26 (gKp_k kn17 (gKp_k kn6 hk0 (by decide)) (by decide)) (by decide)) (by decide)) (by decide)) (by decide)) rfl rfl ac8 rfl (fun _ => rfl) (fun _ _ _ => rfl) (fun _ _ _ q => by cases q; rfl) r57 r58 (by decide) r59.1 r59.2 dX0_init_90 dX0_init_92 (fun ln60 rh61 e62 kn63 => ?_)
  have h := h ln60 e62
  have kp64 := gKp_t kp55 kn63
  refine q_iconst C dX0_init_95 ?_
  refine q_istore_n (lv' := [(2, .int (gI 0)), (0, .ref (gad a0)), (1, .int (gI a1))]) C rfl (by decide) rfl dX0_init_96 ?_
  refine q_lv (lv' := [(0, .ref (gad a0)), (1, .int (gI a1)), (2, .int (gI 0))]) [1, 2, 0] rfl ?_
  obtain ⟨j97, h⟩ := h
  exact t97  j97 kd ln60 rh61 (0 + 1 + 1 + 1 + 1 + 4 + 1 + 1) (0 + Int.toNat 3 + Int.toNat ((gu (gu (gza M a0 5) a0 0 (-1) a1) a0 1 (-1) (a1 * a1)) a0 1 (-1)) + Int.toNat ((gza (gu (gu (gza M a0 5) a0 0 (-1) a1) a0 1 (-1) (a1 * a1)) a0 2) a0 1 (-1)) + Int.toNat ((gza (gza (gu (gu (gza M a0 5) a0 0 (-1) a1) a0 1 (-1) (a1 * a1)) a0 2) a0 3) a0 1 (-1)) + (3 + 3 * Int.toNat ((gza (gza (gza (gu (gu (gza M a0 5) a0 0 (-1) a1) a0 1 (-1) (a1 * a1)) a0 2) a0 3) a0 6) a0 1 (-1))) + Int.toNat (((gza (gza (gza (gza (gza (gza (gza (gu (gu (gza M a0 5) a0 0 (-1) a1) a0 1 (-1) (a1 * a1)) a0 2) a0 3) a0 6) a0 100) a0 101) a0 102) a0 7) a0 1 (-1)) * ((gza (gza (gza (gza (gza (gza (gza (gu (gu (gza M a0 5) a0 0 (-1) a1) a0 1 (-1) (a1 * a1)) a0 2) a0 3) a0 6) a0 100) a0 101) a0 102) a0 7) a0 1 (-1))) + Int.toNat (8 * ((gza (gza (gza (gza (gza (gza (gza (gza (gu (gu (gza M a0 5) a0 0 (-1) a1) a0 1 (-1) (a1 * a1)) a0 2) a0 3) a0 6) a0 100) a0 101) a0 102) a0 7) a0 8) a0 1 (-1)))) kp64 0 (gza (gza (gza (gza (gza (gza (gza (gza (gza (gu (gu (gza M a0 5) a0 0 (-1) a1) a0 1 (-1) (a1 * a1)) a0 2) a0 3) a0 6) a0 100) a0 101) a0 102) a0 7) a0 8) a0 4) h
set_option maxHeartbeats 4000000 in
set_option maxRecDepth 100000 in
theorem mX5_init (l : Launch) (D : va_G) (cy : Nat → ClassId) (mc ms : Nat) (kd : gKd) (ln : gLn) (rh : gRh) (post : gKd → gLn → gM → Prop) (a0 : Int) (a1 : Int) (a2 : Int) (a3 : Int) (M : gM) (hk0 : kd a0 = 5) (hk1 : kd a1 = 0) (hk3 : kd a3 = 2) (h : wX5_init mc ms kd ln post a0 a1 a2 a3 M) : gXV l D cy yX5_init cX5_init 5 4 99 mc ms [.ref (gad a0), .ref (gad a1), .int (gI a2), .ref (gad a3)] kd ln rh M post := by
  refine gXV_of (own := RX5) (by decide) rfl (Nat.le_of_ble_eq_true rfl) ?_
  intro p e s m args below meth c A H0 Q C hin hret
  have t110 : ∀ (n : Nat) (kd_ : gKd) (ln_ : gLn) (rh_ : gRh) (c_ s_ : Nat) (kp_ : gKp kd ln rh kd_ ln_ rh_) (x4 : Int) (M : gM), wX5_init_110 mc ms post a0 a1 a2 a3 n kd_ ln_ c_ s_ x4 M → gW p l e (gRx 4 99 mc ms) s m args below meth c D cy A H0 Q 5 kd_ ln_ rh_ c_ s_ M 110 [(0, .ref (gad a0)), (3, .ref (gad a3)), (4, .int (gI x4))] [] := by
    intro n
    induction n with
    | zero => intro kd_ ln_ rh_ c_ s_ kp_ x4 M h; exact absurd h (by simp [wX5_init_110])
    | succ n ih =>
      intro kd_ ln_ rh_ c_ s_ kp_ x4 M h
      have hk110_ := ih
      rw [wX5_init_110] at h
      obtain ⟨r62, h⟩ := h
      refine q_iload C 2 rfl dX5_init_110 ?_
      refine q_aload_n C 1 rfl rfl dX5_init_112 ?_
      refine q_get (v := .int (gI (M a3 0 (-1)))) C fX5_39 (gKp_k kp_ hk3 (by decide)) rfl dX5_init_113 (fun g63 => ?_)
      have h := h g63
      obtain ⟨r64, h⟩ := h
      refine q_icmp_ge (tgt := 148) C r64 g63 (by decide) dX5_init_116 (fun b65 => ?_) (fun b65 => ?_)
      · have h := h.1 b65
        exact hret kd_ ln_ rh_ M _ _ _ _ r62.1 r62.2 kp_ dX5_init_148 h
      · have h := h.2 b65
        refine q_aload_n C 0 rfl rfl dX5_init_119 ?_
        obtain ⟨r66, h⟩ := h
        refine q_get (v := .ref (rh_ a0 9)) C fX5_54 (gKp_k kp_ hk0 (by decide)) (if_neg (Int.not_lt.mpr r66)) dX5_init_120 (fun g67 => ?_)
        refine q_iload C 2 rfl dX5_init_123 ?_
        refine q_iconst C dX5_init_125 ?_
        refine q_iadd C dX5_init_126 ?_
        refine q_aload_n C 0 rfl rfl dX5_init_127 ?_
        refine q_get (v := .ref (rh_ a0 9)) C fX5_54 (gKp_k kp_ hk0 (by decide)) (if_neg (Int.not_lt.mpr r66)) dX5_init_128 (fun g68 => ?_)
        refine q_iload C 2 rfl dX5_init_131 ?_
        obtain ⟨r69, h⟩ := h
        refine q_iald C (gKp_k kp_ hk0 (by decide)) rfl (fun _ q => q) r69 dX5_init_133 (fun g70 => ?_)
        have h := h g70
        refine q_aload_n C 0 rfl rfl dX5_init_134 ?_
        refine q_iload C 2 rfl dX5_init_135 ?_
        refine q_callVI (As := [.int (gI x4)]) (st := [.int (gI (M a0 9 x4)), .int (gI (x4 + 1)), .ref (rh_ a0 9)]) C vX5_57 kX5_lay r62 ⟨Nat.le_of_ble_eq_true rfl, Nat.le_of_ble_eq_true rfl⟩ rfl (gKp_k kp_ hk0 (by decide)) ⟨_, _, rfl⟩ (by decide) rfl (Nat.le_of_ble_eq_true rfl) (mX5_lay l D cy kd_ ln_ rh_ _ a0 x4 M (gKp_k kp_ hk0 (by decide)) h) dX5_init_137 (fun c72 M71 g73 h => ?_)
        have h := h g73
        refine q_iadd C dX5_init_140 ?_
        obtain ⟨r74, h⟩ := h
        obtain ⟨r75, h⟩ := h
        refine q_iast C (gKp_k kp_ hk0 (by decide)) rfl r75 r74 dX5_init_141 ?_
        refine q_iinc (lv' := [(4, .int (gI (x4 + 1))), (0, .ref (gad a0)), (3, .ref (gad a3))]) C 2 rfl (by decide) rfl dX5_init_142 ?_
        refine q_goto (tgt := 110) C (by decide) dX5_init_145 ?_
        refine q_lv (lv' := [(0, .ref (gad a0)), (3, .ref (gad a3)), (4, .int (gI (x4 + 1)))]) [1, 2, 0] rfl ?_
        exact hk110_ kd_ ln_ rh_ c_ s_ kp_ (x4 + 1) (gu M71 a0 9 (x4 + 1) ((M a0 9 x4) + c72)) h
  unfold wX5_init at h
  refine q_aload_n C 0 rfl rfl dX5_init_0 ?_
  refine q_objInit (o := a0) C obX5_3 (Nat.le_of_ble_eq_true rfl) (Nat.le_of_ble_eq_true rfl) dX5_init_1 ?_
  refine q_aload_n C 0 rfl rfl dX5_init_4 ?_
  refine q_iconst C dX5_init_5 ?_
  obtain ⟨r1, h⟩ := h
  obtain ⟨r2, h⟩ := h
  refine q_newput (t0 := 0) (ty := .int) C hin fX5_9 (fun _ _ _ q => by cases q; rfl) hk0 rfl rfl ac8 rfl (fun _ => rfl) (fun _ _ _ => rfl) (fun _ _ _ q => by cases q; rfl) r1 (show 0 ≤ (2 : Int) ∧ (2 : Int) ≤ 67108864 by decide) (by decide) r2.1 r2.2 dX5_init_6 dX5_init_8 (fun ln3 rh4 e5 kn6 => ?_)
  have h := h ln3 e5
  have kp7 := gKp_t gKp_r kn6
  refine q_aload_n C 0 rfl rfl dX5_init_11 ?_
  refine q_iconst C dX5_init_12 ?_
  obtain ⟨r8, h⟩ := h
  obtain ⟨r9, h⟩ := h
  refine q_newput (t0 := 0) (ty := .int) C hin fX5_15 (fun _ _ _ q => by cases q; rfl) (gKp_k kn6 hk0 (by decide)) rfl rfl ac8 rfl (fun _ => rfl) (fun _ _ _ => rfl) (fun _ _ _ q => by cases q; rfl) r8 (show 0 ≤ (2 : Int) ∧ (2 : Int) ≤ 67108864 by decide) (by decide) r9.1 r9.2 dX5_init_13 dX5_init_15 (fun ln10 rh11 e12 kn13 => ?_)
  have h := h ln10 e12
  have kp14 := gKp_t kp7 kn13
  refine q_aload_n C 0 rfl rfl dX5_init_18 ?_
  refine q_iconst C dX5_init_19 ?_
  obtain ⟨r15, h⟩ := h
  obtain ⟨r16, h⟩ := h
  refine q_newini (v0 := (-1)) (v1 := (-1)) C hin fX5_18 (fun _ _ _ q => by cases q; rfl) (gKp_k kn13 (gKp_k kn6 hk0 (by decide)) (by decide)) rfl rfl (fun _ _ _ q => by cases q; rfl) r15 (by decide) (by decide) (fun _ q => q) r16.1 r16.2 dX5_init_20 dX5_init_22 dX5_init_23 dX5_init_24 dX5_init_25 dX5_init_26 dX5_init_27 dX5_init_28 dX5_init_29 dX5_init_30 (fun ln17 rh18 e19 kn20 => ?_)
  have h := h ln17 e19
  have kp21 := gKp_t kp14 kn20
  refine q_aload_n C 0 rfl rfl dX5_init_33 ?_
  refine q_iconst C dX5_init_34 ?_
  obtain ⟨r22, h⟩ := h
  obtain ⟨r23, h⟩ := h
  refine q_newini (v0 := (-1)) (v1 := (-1)) C hin fX5_21 (fun _ _ _ q => by cases q; rfl) (gKp_k kn20 (gKp_k kn13 (gKp_k kn6 hk0 (by decide)) (by decide)) (by decide)) rfl rfl (fun _ _ _ q => by cases q; rfl) r22 (by decide) (by decide) (fun _ q => q) r23.1 r23.2 dX5_init_35 dX5_init_37 dX5_init_38 dX5_init_39 dX5_init_40 dX5_init_41 dX5_init_42 dX5_init_43 dX5_init_44 dX5_init_45 (fun ln24 rh25 e26 kn27 => ?_)
  have h := h ln24 e26
  have kp28 := gKp_t kp21 kn27
  refine q_aload_n C 0 rfl rfl dX5_init_48 ?_
  refine q_sipush C (by decide) dX5_init_49 ?_
  obtain ⟨r29, h⟩ := h
  obtain ⟨r30, h⟩ := h
  refine q_newput (t0 := 0) (ty := .int) C hin fX5_24 (fun _ _ _ q => by cases q; rfl) (gKp_k kn27 (gKp_k kn20 (gKp_k kn13 (gKp_k kn6 hk0 (by decide)) (by decide)) (by decide)) (by decide)) rfl rfl ac8 rfl (fun _ => rfl) (fun _ _ _ => rfl) (fun _ _ _ q => by cases q; rfl) r29 (show 0 ≤ (254 : Int) ∧ (254 : Int) ≤ 67108864 by decide) (by decide) r30.1 r30.2 dX5_init_52 dX5_init_54 (fun ln31 rh32 e33 kn34 => ?_)
  have h := h ln31 e33
  have kp35 := gKp_t kp28 kn34
  refine q_aload_n C 0 rfl rfl dX5_init_57 ?_
  refine q_aload_n C 1 rfl rfl dX5_init_58 ?_
  obtain ⟨r36, h⟩ := h
  refine q_putF (x := a1) (v := .ref (gad a1)) (ty := .object RX0) C hin fX5_27 (fun _ _ _ q => by cases q; rfl) (gKp_k kn34 (gKp_k kn27 (gKp_k kn20 (gKp_k kn13 (gKp_k kn6 hk0 (by decide)) (by decide)) (by decide)) (by decide)) (by decide)) (fun _ _ _ q => by cases q; rfl) (gfo_put rfl r36) rfl rfl (Int.le_of_lt r36) (fun j q => absurd (show (1 : Nat) = j + 3 from q) (by omega)) dX5_init_59 ?_
  refine q_aload_n C 0 rfl rfl dX5_init_62 ?_
  refine q_iload_n C 2 rfl rfl dX5_init_63 ?_
  obtain ⟨r37, h⟩ := h
  refine q_putF (x := a2) (ty := .int) C hin fX5_31 (fun _ _ _ q => by cases q; rfl) (gKp_k kn34 (gKp_k kn27 (gKp_k kn20 (gKp_k kn13 (gKp_k kn6 hk0 (by decide)) (by decide)) (by decide)) (by decide)) (by decide)) (fun _ _ _ q => by cases q; rfl) (congrArg (fun z => Value.int (gI z)) gu_s) rfl rfl r37 (fun j q => absurd (show (0 : Nat) = j + 3 from q) (by omega)) dX5_init_64 ?_
  refine q_aload_n C 0 rfl rfl dX5_init_67 ?_
  refine q_aload_n C 3 rfl rfl dX5_init_68 ?_
  obtain ⟨r38, h⟩ := h
  refine q_putF (x := a3) (v := .ref (gad a3)) (ty := .object RX2) C hin fX5_35 (fun _ _ _ q => by cases q; rfl) (gKp_k kn34 (gKp_k kn27 (gKp_k kn20 (gKp_k kn13 (gKp_k kn6 hk0 (by decide)) (by decide)) (by decide)) (by decide)) (by decide)) (fun _ _ _ q => by cases q; rfl) (gfo_put rfl r38) rfl rfl (Int.le_of_lt r38) (fun j q => absurd (show (1 : Nat) = j + 3 from q) (by omega)) dX5_init_69 ?_
  refine q_aload_n C 0 rfl rfl dX5_init_72 ?_
  refine q_aload_n C 3 rfl rfl dX5_init_73 ?_
  refine q_get (v := .int (gI ((gu (gu (gu (gza (gzf (gzf (gza (gza M a0 3) a0 4) a0 5 (fun i => if i = 0 then (-1) else if i = 1 then (-1) else 0)) a0 6 (fun i => if i = 0 then (-1) else if i = 1 then (-1) else 0)) a0 10) a0 8 (-1) a1) a0 0 (-1) a2) a0 2 (-1) a3) a3 0 (-1)))) C fX5_39 (gKp_k kn34 (gKp_k kn27 (gKp_k kn20 (gKp_k kn13 (gKp_k kn6 hk3 (by decide)) (by decide)) (by decide)) (by decide)) (by decide)) rfl dX5_init_74 (fun g39 => ?_)
  have h := h g39
  refine q_sipush C (by decide) dX5_init_77 ?_
  refine q_imul C dX5_init_80 ?_
  obtain ⟨r40, h⟩ := h
  obtain ⟨r41, h⟩ := h
  obtain ⟨r42, h⟩ := h
  refine q_newput (t0 := 1) (ty := .byte) C hin fX5_44 (fun _ _ _ q => by cases q; rfl) (gKp_k kn34 (gKp_k kn27 (gKp_k kn20 (gKp_k kn13 (gKp_k kn6 hk0 (by decide)) (by decide)) (by decide)) (by decide)) (by decide)) rfl rfl ac9 rfl (fun _ => rfl) (fun _ _ _ => rfl) (fun _ _ _ q => by cases q; rfl) r40 r41 (by decide) r42.1 r42.2 dX5_init_81 dX5_init_83 (fun ln43 rh44 e45 kn46 => ?_)
  have h := h ln43 e45
  have kp47 := gKp_t kp35 kn46
  refine q_aload_n C 0 rfl rfl dX5_init_86 ?_
  obtain ⟨r48, h⟩ := h
  refine q_get (v := .ref (rh44 a0 1)) C fX5_44 (gKp_k kn46 (gKp_k kn34 (gKp_k kn27 (gKp_k kn20 (gKp_k kn13 (gKp_k kn6 hk0 (by decide)) (by decide)) (by decide)) (by decide)) (by decide)) (by decide)) (if_neg (Int.not_lt.mpr r48)) dX5_init_87 (fun g49 => ?_)
  refine q_bipush C (by decide) dX5_init_90 ?_
  refine q_callSV (As := [.ref (rh44 a0 1), .int (gI (-2))]) (st := []) C vX5_48 kJ7_fill_031fb r42 ⟨Nat.le_of_ble_eq_true rfl, Nat.le_of_ble_eq_true rfl⟩ rfl rfl (Nat.le_of_ble_eq_true rfl) (mJ7_fill_031fb l D cy kd ln43 rh44 _ a0 1 (-2) (gza (gu (gu (gu (gza (gzf (gzf (gza (gza M a0 3) a0 4) a0 5 (fun i => if i = 0 then (-1) else if i = 1 then (-1) else 0)) a0 6 (fun i => if i = 0 then (-1) else if i = 1 then (-1) else 0)) a0 10) a0 8 (-1) a1) a0 0 (-1) a2) a0 2 (-1) a3) a0 1) (by rw [(gKp_k kn46 (gKp_k kn34 (gKp_k kn27 (gKp_k kn20 (gKp_k kn13 (gKp_k kn6 hk0 (by decide)) (by decide)) (by decide)) (by decide)) (by decide)) (by decide))]; rfl) (fun _ q => by rw [(gKp_k kn46 (gKp_k kn34 (gKp_k kn27 (gKp_k kn20 (gKp_k kn13 (gKp_k kn6 hk0 (by decide)) (by decide)) (by decide)) (by decide)) (by decide)) (by decide))]; exact q) h) dX5_init_92 (fun M50 h => ?_)
  refine q_aload_n C 0 rfl rfl dX5_init_95 ?_
  refine q_aload_n C 3 rfl rfl dX5_init_96 ?_
  refine q_get (v := .int (gI (M50 a3 0 (-1)))) C fX5_39 (gKp_k kn46 (gKp_k kn34 (gKp_k kn27 (gKp_k kn20 (gKp_k kn13 (gKp_k kn6 hk3 (by decide)) (by decide)) (by decide)) (by decide)) (by decide)) (by decide)) rfl dX5_init_97 (fun g53 => ?_)
  have h := h g53
  refine q_iconst C dX5_init_100 ?_
  refine q_iadd C dX5_init_101 ?_
  obtain ⟨r54, h⟩ := h
  obtain ⟨r55, h⟩ := h
  obtain ⟨r56, h⟩ := h
  refine q_newput (t0 := 0) (ty := .int) C hin fX5_54 (fun _ _ _ q => by cases q; rfl) (gKp_k kn46 (gKp_k kn34 (gKp_k kn27 (gKp_k kn20 (gKp_k kn13 (gKp_k kn6 hk0 (by decide)) (by decide)) (by decide)) (by decide)) (by decide)) (by decide)) rfl rfl ac8 rfl (fun _ => rfl) (fun _ _ _ => rfl) (fun _ _ _ q => by cases q; rfl) r54 r55 (by decide) r56.1 r56.2 dX5_init_102 dX5_init_104 (fun ln57 rh58 e59 kn60 => ?_)
  have h := h ln57 e59
  have kp61 := gKp_t kp47 kn60
  refine q_iconst C dX5_init_107 ?_
  refine q_istore (lv' := [(4, .int (gI 0)), (0, .ref (gad a0)), (1, .ref (gad a1)), (2, .int (gI a2)), (3, .ref (gad a3))]) C (by decide) rfl dX5_init_108 ?_
  refine q_lv (lv' := [(0, .ref (gad a0)), (3, .ref (gad a3)), (4, .int (gI 0))]) [1, 4, 0] rfl ?_
  obtain ⟨j110, h⟩ := h
  exact t110  j110 kd ln57 rh58 (0 + 1 + 1 + 1 + 1 + 1 + 1 + 1) (0 + Int.toNat 2 + Int.toNat 2 + 2 + 2 + Int.toNat 254 + Int.toNat (((gu (gu (gu (gza (gzf (gzf (gza (gza M a0 3) a0 4) a0 5 (fun i => if i = 0 then (-1) else if i = 1 then (-1) else 0)) a0 6 (fun i => if i = 0 then (-1) else if i = 1 then (-1) else 0)) a0 10) a0 8 (-1) a1) a0 0 (-1) a2) a0 2 (-1) a3) a3 0 (-1)) * 128) + Int.toNat ((M50 a3 0 (-1)) + 1)) kp61 0 (gza M50 a0 9) h
set_option maxHeartbeats 4000000 in
set_option maxRecDepth 100000 in
theorem mX0_prepare (l : Launch) (D : va_G) (cy : Nat → ClassId) (mc ms : Nat) (kd : gKd) (ln : gLn) (rh : gRh) (post : Int → gKd → gLn → gM → Prop) (a0 : Int) (a1 : Int) (M : gM) (hk0 : kd a0 = 0) (h : wX0_prepare mc ms kd ln post a0 a1 M) : gXR l D cy yX0_prepare cX0_prepare 3 RX5 6 155 mc ms [.ref (gad a0), .int (gI a1)] kd ln rh M post := by
  refine gXR_of (own := RX0) (by decide) rfl (Nat.le_of_ble_eq_true rfl) ?_
  intro p e s m args below meth c A H0 Q C hin hret
  have t61 : ∀ (kd_ : gKd) (ln_ : gLn) (rh_ : gRh) (c_ s_ : Nat) (kp_ : gKp kd ln rh kd_ ln_ rh_) (x2 : Int) (M : gM), wX0_prepare_61 mc ms post a0 a1 kd_ ln_ c_ s_ x2 M → gW p l e (gRx 6 155 mc ms) s m args below meth c D cy A H0 Q 3 kd_ ln_ rh_ c_ s_ M 61 [(2, gR x2)] [] := by
    intro  kd_ ln_ rh_ c_ s_ kp_ x2 M h
    unfold wX0_prepare_61 at h
    obtain ⟨r70, h⟩ := h
    refine q_aloadR_n C 0 rfl rfl dX0_prepare_61 ?_
    obtain ⟨r71, h⟩ := h
    refine q_nn r71 (by decide) ?_
    exact hret x2 kd_ ln_ rh_ M _ _ _ _ r70.1 r70.2 kp_ dX0_prepare_62 h
  unfold wX0_prepare at h
  refine q_aload_n C 0 rfl rfl dX0_prepare_0 ?_
  obtain ⟨r1, h⟩ := h
  refine q_get (v := .ref (rh a0 5)) C fX0_11 hk0 (if_neg (Int.not_lt.mpr r1)) dX0_prepare_1 (fun g2 => ?_)
  refine q_iload_n C 1 rfl rfl dX0_prepare_4 ?_
  obtain ⟨r3, h⟩ := h
  refine q_aald (t0 := 5) C hk0 rfl (fun _ _ => rfl) rfl r3 dX0_prepare_5 ?_
  refine q_astoreR_n (lv' := [(2, gR (M a0 5 a1)), (0, .ref (gad a0)), (1, .int (gI a1))]) C rfl (by decide) rfl dX0_prepare_6 ?_
  refine q_aloadR_n C 0 rfl rfl dX0_prepare_7 ?_
  refine q_ifnonnull (tgt := 61) C (by decide) dX0_prepare_8 (fun b4 => ?_) (fun b4 => ?_)
  · have h := h.1 b4
    refine q_lv (lv' := [(2, gR (M a0 5 a1))]) [0] rfl ?_
    exact t61  kd ln rh 0 0 gKp_r (M a0 5 a1) M h
  · have h := h.2 b4
    obtain ⟨r5, h⟩ := h
    refine q_new C wX0_9 r5.1 r5.2 dX0_prepare_11 (fun o6 kd7 M8 g9 g10 g11 e12 e13 kn14 => ?_)
    have h := h o6 kd7 M8 g9 g10 g11 e12 e13
    have hk15 : kd7 o6 = 5 := by rw [e12]; exact gkn_s
    have kp16 := gKp_t gKp_r kn14
    refine q_dup C rfl dX0_prepare_14 ?_
    refine q_aload_n C 1 rfl rfl dX0_prepare_15 ?_
    refine q_iload_n C 2 rfl rfl dX0_prepare_16 ?_
    refine q_aload_n C 1 rfl rfl dX0_prepare_17 ?_
    refine q_iload_n C 2 rfl rfl dX0_prepare_18 ?_
    obtain ⟨mc17, ms18, r24, h⟩ := h
    refine q_callXR (As := [.int (gI a1)]) (st := [.int (gI a1), .ref (gad a0), .ref (gad o6), .ref (gad o6)]) C vX0_101 kX0_pairsFor r24 ⟨Nat.le_of_ble_eq_true rfl, Nat.le_of_ble_eq_true rfl⟩ rfl (gKp_k kn14 hk0 (by decide)) ⟨_, _, rfl⟩ (by decide) rfl (Nat.le_of_ble_eq_true rfl) (mX0_pairsFor l D cy mc17 ms18 kd7 ln rh _ a0 a1 M8 (gKp_k kn14 hk0 (by decide)) h) dX0_prepare_19 (fun c25 kd19 ln20 rh21 M22 kn23 h => ?_)
    have kp26 := gKp_t kp16 kn23
    obtain ⟨r27, h⟩ := h
    obtain ⟨mc28, ms29, r35, h⟩ := h
    refine q_callIX (As := [.ref (gad a0), .int (gI a1), .ref (gad c25)]) (st := [.ref (gad o6)]) (o := o6) C iX0_105 kX5_init r35 ⟨Nat.le_of_ble_eq_true rfl, Nat.le_of_ble_eq_true rfl⟩ rfl rfl (Nat.le_of_ble_eq_true rfl) (mX5_init l D cy mc28 ms29 kd19 ln20 rh21 _ o6 a0 a1 c25 M22 (gKp_k kn23 hk15 (by decide)) (gKp_k kn23 (gKp_k kn14 hk0 (by decide)) (by decide)) r27 h) dX0_prepare_22 (fun kd30 ln31 rh32 M33 kn34 h => ?_)
    have kp36 := gKp_t kp26 kn34
    refine q_astore_n (lv' := [(2, .ref (gad o6)), (0, .ref (gad a0)), (1, .int (gI a1))]) C rfl (by decide) rfl dX0_prepare_25 ?_
    obtain ⟨r37, h⟩ := h
    refine q_new C wX0_108 r37.1 r37.2 dX0_prepare_26 (fun o38 kd39 M40 g41 g42 g43 e44 e45 kn46 => ?_)
    have h := h o38 kd39 M40 g41 g42 g43 e44 e45
    have hk47 : kd39 o38 = 3 := by rw [e44]; exact gkn_s
    have kp48 := gKp_t kp36 kn46
    refine q_dup C rfl dX0_prepare_29 ?_
    refine q_aload_n C 1 rfl rfl dX0_prepare_30 ?_
    refine q_aload_n C 0 rfl rfl dX0_prepare_31 ?_
    obtain ⟨mc49, ms50, r56, h⟩ := h
    refine q_callIX (As := [.ref (gad a0), .ref (gad o6)]) (st := [.ref (gad o38)]) (o := o38) C iX0_110 kX3_init r56 ⟨Nat.le_of_ble_eq_true rfl, Nat.le_of_ble_eq_true rfl⟩ rfl rfl (Nat.le_of_ble_eq_true rfl) (mX3_init l D cy mc49 ms50 kd39 ln31 rh32 _ o38 a0 o6 M40 hk47 (gKp_k kn46 (gKp_k kn34 (gKp_k kn23 (gKp_k kn14 hk0 (by decide)) (by decide)) (by decide)) (by decide)) (gKp_k kn46 (gKp_k kn34 (gKp_k kn23 hk15 (by decide)) (by decide)) (by decide)) h) dX0_prepare_32 (fun kd51 ln52 rh53 M54 kn55 h => ?_)
    have kp57 := gKp_t kp48 kn55
    refine q_aload_n C 1 rfl rfl dX0_prepare_35 ?_
    refine q_get (v := .ref (rh53 a0 5)) C fX0_11 (gKp_k kn55 (gKp_k kn46 (gKp_k kn34 (gKp_k kn23 (gKp_k kn14 hk0 (by decide)) (by decide)) (by decide)) (by decide)) (by decide)) (if_neg (Int.not_lt.mpr (gKp_l kn55 (gKp_l kn46 (gKp_l kn34 (gKp_l kn23 (gKp_l kn14 r1))))))) dX0_prepare_36 (fun g58 => ?_)
    refine q_iconst C dX0_prepare_39 ?_
    obtain ⟨r59, h⟩ := h
    refine q_aald (t0 := 5) C (gKp_k kn55 (gKp_k kn46 (gKp_k kn34 (gKp_k kn23 (gKp_k kn14 hk0 (by decide)) (by decide)) (by decide)) (by decide)) (by decide)) rfl (fun _ _ => rfl) rfl r59 dX0_prepare_40 ?_
    refine q_aload_n C 1 rfl rfl dX0_prepare_41 ?_
    refine q_get (v := .ref (rh53 a0 5)) C fX0_11 (gKp_k kn55 (gKp_k kn46 (gKp_k kn34 (gKp_k kn23 (gKp_k kn14 hk0 (by decide)) (by decide)) (by decide)) (by decide)) (by decide)) (if_neg (Int.not_lt.mpr (gKp_l kn55 (gKp_l kn46 (gKp_l kn34 (gKp_l kn23 (gKp_l kn14 r1))))))) dX0_prepare_42 (fun g60 => ?_)
    refine q_iconst C dX0_prepare_45 ?_
    obtain ⟨r61, h⟩ := h
    refine q_aald (t0 := 5) C (gKp_k kn55 (gKp_k kn46 (gKp_k kn34 (gKp_k kn23 (gKp_k kn14 hk0 (by decide)) (by decide)) (by decide)) (by decide)) (by decide)) rfl (fun _ _ => rfl) rfl r61 dX0_prepare_46 ?_
    refine q_callVV (As := [gR (M54 a0 5 0), gR (M54 a0 5 1)]) (st := []) C vX0_113 kX3_work r56 ⟨Nat.le_of_ble_eq_true rfl, Nat.le_of_ble_eq_true rfl⟩ rfl (gKp_k kn55 hk47 (by decide)) ⟨_, _, rfl⟩ (by decide) rfl (Nat.le_of_ble_eq_true rfl) (mX3_work l D cy kd51 ln52 rh53 _ o38 (M54 a0 5 0) (M54 a0 5 1) M54 (gKp_k kn55 hk47 (by decide)) h) dX0_prepare_47 (fun M62 h => ?_)
    refine q_aload_n C 0 rfl rfl dX0_prepare_50 ?_
    refine q_callVV (As := []) (st := []) C vX0_117 kX5_sumUp r56 ⟨Nat.le_of_ble_eq_true rfl, Nat.le_of_ble_eq_true rfl⟩ rfl (gKp_k kn55 (gKp_k kn46 (gKp_k kn34 (gKp_k kn23 hk15 (by decide)) (by decide)) (by decide)) (by decide)) ⟨_, _, rfl⟩ (by decide) rfl (Nat.le_of_ble_eq_true rfl) (mX5_sumUp l D cy kd51 ln52 rh53 _ o6 M62 (gKp_k kn55 (gKp_k kn46 (gKp_k kn34 (gKp_k kn23 hk15 (by decide)) (by decide)) (by decide)) (by decide)) h) dX0_prepare_51 (fun M65 h => ?_)
    refine q_aload_n C 1 rfl rfl dX0_prepare_54 ?_
    refine q_get (v := .ref (rh53 a0 5)) C fX0_11 (gKp_k kn55 (gKp_k kn46 (gKp_k kn34 (gKp_k kn23 (gKp_k kn14 hk0 (by decide)) (by decide)) (by decide)) (by decide)) (by decide)) (if_neg (Int.not_lt.mpr (gKp_l kn55 (gKp_l kn46 (gKp_l kn34 (gKp_l kn23 (gKp_l kn14 r1))))))) dX0_prepare_55 (fun g68 => ?_)
    refine q_iload_n C 2 rfl rfl dX0_prepare_58 ?_
    refine q_aload_n C 0 rfl rfl dX0_prepare_59 ?_
    obtain ⟨r69, h⟩ := h
    refine q_aast (t0 := 5) C (gKp_k kn55 (gKp_k kn46 (gKp_k kn34 (gKp_k kn23 (gKp_k kn14 hk0 (by decide)) (by decide)) (by decide)) (by decide)) (by decide)) rfl (fun _ _ => rfl) rfl (gKp_k kn55 (gKp_k kn46 (gKp_k kn34 (gKp_k kn23 hk15 (by decide)) (by decide)) (by decide)) (by decide)) (by decide) ⟨_, _, rfl⟩ (Int.le_of_lt g9) r69 dX0_prepare_60 ?_
    rw [show Value.ref (gad o6) = gR o6 from (if_neg (by omega)).symm]
    refine q_lv (lv' := [(2, gR o6)]) [0] rfl ?_
    exact t61  kd51 ln52 rh53 (0 + 1 + mc17 + mc28 + 1 + mc49) (0 + 11 + ms18 + ms29 + 11 + ms50) kp57 o6 (gu M65 a0 5 a1 o6) h
set_option maxHeartbeats 4000000 in
set_option maxRecDepth 100000 in
theorem mX6_board (l : Launch) (D : va_G) (cy : Nat → ClassId) (mc ms : Nat) (kd : gKd) (ln : gLn) (rh : gRh) (post : Int → gKd → gLn → gM → Prop) (a0 : Int) (a1 : Int) (M : gM) (hk0 : kd a0 = 6) (h : wX6_board mc ms kd ln post a0 a1 M) : gXI l D cy yX6_board cX6_board 3 .boolean 5 122 mc ms [.ref (gad a0), .int (gI a1)] kd ln rh M post := by
  refine gXI_ofZ (own := RX6) (by decide) rfl (Nat.le_of_ble_eq_true rfl) ?_
  intro p e s m args below meth c A H0 Q C hin hret
  have t48 : ∀ (n : Nat) (kd_ : gKd) (ln_ : gLn) (rh_ : gRh) (c_ s_ : Nat) (kp_ : gKp kd ln rh kd_ ln_ rh_) (x2 : Int) (M : gM), wX6_board_48 mc ms post a0 a1 n kd_ ln_ c_ s_ x2 M → gW p l e (gRx 5 122 mc ms) s m args below meth c D cy A H0 Q 3 kd_ ln_ rh_ c_ s_ M 48 [(0, .ref (gad a0)), (2, .int (gI x2))] [] := by
    intro n
    induction n with
    | zero => intro kd_ ln_ rh_ c_ s_ kp_ x2 M h; exact absurd h (by simp [wX6_board_48])
    | succ n ih =>
      intro kd_ ln_ rh_ c_ s_ kp_ x2 M h
      have hk48_ := ih
      rw [wX6_board_48] at h
      obtain ⟨r37, h⟩ := h
      refine q_iload_n C 1 rfl rfl dX6_board_48 ?_
      refine q_iconst C dX6_board_49 ?_
      obtain ⟨r38, h⟩ := h
      refine q_icmp_ge (tgt := 66) C r38 (show rng 3 by decide) (by decide) dX6_board_50 (fun b39 => ?_) (fun b39 => ?_)
      · have h := h.1 b39
        refine q_aload_n C 0 rfl rfl dX6_board_66 ?_
        refine q_iconst C dX6_board_67 ?_
        refine q_put (x := 0) (ty := .int) C fX6_56 (gKp_k kp_ hk0 (by decide)) (fun _ _ _ q => by cases q; rfl) (congrArg (fun z => Value.int (gI z)) gu_s) rfl rfl (show rng 0 by decide) (fun j q => absurd (show (0 : Nat) = j + 3 from q) (by omega)) dX6_board_68 ?_
        refine q_iconst C dX6_board_71 ?_
        exact hret 1 kd_ ln_ rh_ (gu M a0 8 (-1) 0) _ _ _ _ r37.1 r37.2 kp_ dX6_board_72 (Or.inr rfl) h
      · have h := h.2 b39
        refine q_aload_n C 0 rfl rfl dX6_board_53 ?_
        obtain ⟨r40, h⟩ := h
        refine q_get (v := .ref (rh_ a0 2)) C fX6_15 (gKp_k kp_ hk0 (by decide)) (if_neg (Int.not_lt.mpr r40)) dX6_board_54 (fun g41 => ?_)
        refine q_iload_n C 1 rfl rfl dX6_board_57 ?_
        refine q_iconst C dX6_board_58 ?_
        obtain ⟨r42, h⟩ := h
        refine q_zast C (gKp_k kp_ hk0 (by decide)) rfl (rng1 (Or.inl rfl)) (Or.inl rfl) r42 dX6_board_59 ?_
        refine q_iinc (lv' := [(2, .int (gI (x2 + 1))), (0, .ref (gad a0))]) C 1 rfl (by decide) rfl dX6_board_60 ?_
        refine q_goto (tgt := 48) C (by decide) dX6_board_63 ?_
        refine q_lv (lv' := [(0, .ref (gad a0)), (2, .int (gI (x2 + 1)))]) [1, 0] rfl ?_
        exact hk48_ kd_ ln_ rh_ c_ s_ kp_ (x2 + 1) (gu M a0 2 x2 0) h
  have t36 : ∀ (kd_ : gKd) (ln_ : gLn) (rh_ : gRh) (c_ s_ : Nat) (kp_ : gKp kd ln rh kd_ ln_ rh_) (M : gM), wX6_board_36 mc ms post a0 a1 kd_ ln_ c_ s_ M → gW p l e (gRx 5 122 mc ms) s m args below meth c D cy A H0 Q 3 kd_ ln_ rh_ c_ s_ M 36 [(0, .ref (gad a0)), (1, .int (gI a1))] [] := by
    intro  kd_ ln_ rh_ c_ s_ kp_  M h
    unfold wX6_board_36 at h
    obtain ⟨r31, h⟩ := h
    refine q_aload_n C 0 rfl rfl dX6_board_36 ?_
    refine q_aload_n C 0 rfl rfl dX6_board_37 ?_
    obtain ⟨r32, h⟩ := h
    refine q_get (v := .ref (rh_ a0 0)) C fX6_11 (gKp_k kp_ hk0 (by decide)) (if_neg (Int.not_lt.mpr r32)) dX6_board_38 (fun g33 => ?_)
    refine q_iload_n C 1 rfl rfl dX6_board_41 ?_
    obtain ⟨r34, h⟩ := h
    refine q_aald (t0 := 4) C (gKp_k kp_ hk0 (by decide)) rfl (fun _ _ => rfl) rfl r34 dX6_board_42 ?_
    obtain ⟨r35, h⟩ := h
    refine q_nn r35 (by decide) ?_
    obtain ⟨r36, h⟩ := h
    refine q_putO (x := (M a0 0 a1)) (Cn := RX0) C fX6_52 (gKp_k kp_ hk0 (by decide)) (fun _ _ _ q => by cases q; rfl) rfl r36 (Int.le_of_lt r36) dX6_board_43 ?_
    refine q_iconst C dX6_board_46 ?_
    refine q_istore_n (lv' := [(2, .int (gI 0)), (0, .ref (gad a0)), (1, .int (gI a1))]) C rfl (by decide) rfl dX6_board_47 ?_
    refine q_lv (lv' := [(0, .ref (gad a0)), (2, .int (gI 0))]) [1, 0] rfl ?_
    obtain ⟨j48, h⟩ := h
    exact t48  j48 kd_ ln_ rh_ c_ s_ kp_ 0 (gu M a0 1 (-1) (M a0 0 a1)) h
  unfold wX6_board at h
  refine q_iload_n C 1 rfl rfl dX6_board_0 ?_
  refine q_iconst C dX6_board_1 ?_
  obtain ⟨r1, h⟩ := h
  refine q_icmp_lt (tgt := 11) C r1 (show rng 4 by decide) (by decide) dX6_board_2 (fun b2 => ?_) (fun b2 => ?_)
  · have h := h.1 b2
    refine q_iconst C dX6_board_11 ?_
    exact hret 0 kd ln rh M _ _ _ _ (Nat.zero_le _) (Nat.zero_le _) gKp_r dX6_board_12 (Or.inl rfl) h
  · have h := h.2 b2
    refine q_iload_n C 1 rfl rfl dX6_board_5 ?_
    refine q_bipush C (by decide) dX6_board_6 ?_
    refine q_icmp_le (tgt := 13) C r1 (show rng 8 by decide) (by decide) dX6_board_8 (fun b3 => ?_) (fun b3 => ?_)
    · have h := h.1 b3
      refine q_aload_n C 0 rfl rfl dX6_board_13 ?_
      obtain ⟨r4, h⟩ := h
      refine q_get (v := .ref (rh a0 0)) C fX6_11 hk0 (if_neg (Int.not_lt.mpr r4)) dX6_board_14 (fun g5 => ?_)
      refine q_iload_n C 1 rfl rfl dX6_board_17 ?_
      obtain ⟨r6, h⟩ := h
      refine q_aald (t0 := 4) C hk0 rfl (fun _ _ => rfl) rfl r6 dX6_board_18 ?_
      refine q_ifnonnull (tgt := 36) C (by decide) dX6_board_19 (fun b7 => ?_) (fun b7 => ?_)
      · have h := h.1 b7
        exact t36  kd ln rh 0 0 gKp_r M h
      · have h := h.2 b7
        refine q_aload_n C 0 rfl rfl dX6_board_22 ?_
        refine q_get (v := .ref (rh a0 0)) C fX6_11 hk0 (if_neg (Int.not_lt.mpr r4)) dX6_board_23 (fun g8 => ?_)
        refine q_iload_n C 1 rfl rfl dX6_board_26 ?_
        obtain ⟨r9, h⟩ := h
        refine q_new C wX6_9 r9.1 r9.2 dX6_board_27 (fun o10 kd11 M12 g13 g14 g15 e16 e17 kn18 => ?_)
        have h := h o10 kd11 M12 g13 g14 g15 e16 e17
        have hk19 : kd11 o10 = 0 := by rw [e16]; exact gkn_s
        have kp20 := gKp_t gKp_r kn18
        refine q_dup C rfl dX6_board_30 ?_
        refine q_iload_n C 1 rfl rfl dX6_board_31 ?_
        obtain ⟨mc21, ms22, r28, h⟩ := h
        refine q_callIX (As := [.int (gI a1)]) (st := [.ref (gad o10), .int (gI a1), .ref (rh a0 0)]) (o := o10) C iX6_49 kX0_init r28 ⟨Nat.le_of_ble_eq_true rfl, Nat.le_of_ble_eq_true rfl⟩ rfl rfl (Nat.le_of_ble_eq_true rfl) (mX0_init l D cy mc21 ms22 kd11 ln rh _ o10 a1 M12 hk19 h) dX6_board_32 (fun kd23 ln24 rh25 M26 kn27 h => ?_)
        have kp29 := gKp_t kp20 kn27
        rw [← (kn27.2 a0 0 (gKp_l kn18 r4)).2]
        obtain ⟨r30, h⟩ := h
        refine q_aast (t0 := 4) C (gKp_k kn27 (gKp_k kn18 hk0 (by decide)) (by decide)) rfl (fun _ _ => rfl) rfl (gKp_k kn27 hk19 (by decide)) (by decide) ⟨_, _, rfl⟩ (Int.le_of_lt g13) r30 dX6_board_35 ?_
        exact t36  kd23 ln24 rh25 (0 + 1 + mc21) (0 + 11 + ms22) kp29 (gu M26 a0 0 a1 o10) h
    · have h := h.2 b3
      refine q_iconst C dX6_board_11 ?_
      exact hret 0 kd ln rh M _ _ _ _ (Nat.zero_le _) (Nat.zero_le _) gKp_r dX6_board_12 (Or.inl rfl) h
set_option maxHeartbeats 4000000 in
set_option maxRecDepth 100000 in
theorem mX6_init (l : Launch) (D : va_G) (cy : Nat → ClassId) (mc ms : Nat) (kd : gKd) (ln : gLn) (rh : gRh) (post : gKd → gLn → gM → Prop) (a0 : Int) (M : gM) (hk0 : kd a0 = 6) (h : wX6_init mc ms kd ln post a0 M) : gXV l D cy yX6_init cX6_init 1 5 122 mc ms [.ref (gad a0)] kd ln rh M post := by
  refine gXV_of (own := RX6) (by decide) rfl (Nat.le_of_ble_eq_true rfl) ?_
  intro p e s m args below meth c A H0 Q C hin hret
  unfold wX6_init at h
  refine q_aload_n C 0 rfl rfl dX6_init_0 ?_
  refine q_objInit (o := a0) C obX6_1 (Nat.le_of_ble_eq_true rfl) (Nat.le_of_ble_eq_true rfl) dX6_init_1 ?_
  refine q_aload_n C 0 rfl rfl dX6_init_4 ?_
  refine q_bipush C (by decide) dX6_init_5 ?_
  obtain ⟨r1, h⟩ := h
  obtain ⟨r2, h⟩ := h
  refine q_anewput (t0 := 4) (t := 12) C hin fX6_11 (fun _ _ _ q => by cases q; rfl) hk0 rfl rfl (fun _ _ _ _ => rfl) awX6_9 rfl (fun _ _ _ q => by cases q; rfl) r1 (show 0 ≤ (9 : Int) ∧ (9 : Int) ≤ 67108864 by decide) r2.1 r2.2 dX6_init_7 dX6_init_10 (fun ln3 rh4 e5 kn6 => ?_)
  have h := h ln3 e5
  have kp7 := gKp_t gKp_r kn6
  refine q_aload_n C 0 rfl rfl dX6_init_13 ?_
  refine q_iconst C dX6_init_14 ?_
  obtain ⟨r8, h⟩ := h
  obtain ⟨r9, h⟩ := h
  refine q_newput (t0 := 2) (ty := .boolean) C hin fX6_15 (fun _ _ _ q => by cases q; rfl) (gKp_k kn6 hk0 (by decide)) rfl rfl ac10 rfl (fun _ => rfl) (fun _ _ _ => rfl) (fun _ _ _ q => by cases q; rfl) r8 (show 0 ≤ (3 : Int) ∧ (3 : Int) ≤ 67108864 by decide) (by decide) r9.1 r9.2 dX6_init_15 dX6_init_17 (fun ln10 rh11 e12 kn13 => ?_)
  have h := h ln10 e12
  have kp14 := gKp_t kp7 kn13
  refine q_aload_n C 0 rfl rfl dX6_init_20 ?_
  obtain ⟨r15, h⟩ := h
  refine q_new C wX6_19 r15.1 r15.2 dX6_init_21 (fun o16 kd17 M18 g19 g20 g21 e22 e23 kn24 => ?_)
  have h := h o16 kd17 M18 g19 g20 g21 e22 e23
  have hk25 : kd17 o16 = 1 := by rw [e22]; exact gkn_s
  have kp26 := gKp_t kp14 kn24
  refine q_dup C rfl dX6_init_24 ?_
  obtain ⟨mc27, ms28, r34, h⟩ := h
  refine q_callJX (As := []) (st := [.ref (gad o16), .ref (gad a0)]) (o := o16) C iX6_21 kX1_init r34 ⟨Nat.le_of_ble_eq_true rfl, Nat.le_of_ble_eq_true rfl⟩ rfl rfl (Nat.le_of_ble_eq_true rfl) (mX1_init l D cy mc27 ms28 kd17 ln10 rh11 _ o16 M18 hk25 h) dX6_init_25 (fun kd29 ln30 rh31 M32 kn33 h => ?_)
  have kp35 := gKp_t kp26 kn33
  refine q_putF (x := o16) (v := .ref (gad o16)) (ty := .object RX1) C hin fX6_22 (fun _ _ _ q => by cases q; rfl) (gKp_k kn33 (gKp_k kn24 (gKp_k kn13 (gKp_k kn6 hk0 (by decide)) (by decide)) (by decide)) (by decide)) (fun _ _ _ q => by cases q; rfl) (gfo_put rfl g19) rfl rfl (Int.le_of_lt g19) (fun j q => absurd (show (1 : Nat) = j + 3 from q) (by omega)) dX6_init_28 ?_
  refine q_aload_n C 0 rfl rfl dX6_init_31 ?_
  obtain ⟨r36, h⟩ := h
  refine q_new C wX6_26 r36.1 r36.2 dX6_init_32 (fun o37 kd38 M39 g40 g41 g42 e43 e44 kn45 => ?_)
  have h := h o37 kd38 M39 g40 g41 g42 e43 e44
  have hk46 : kd38 o37 = 4 := by rw [e43]; exact gkn_s
  have kp47 := gKp_t kp35 kn45
  refine q_dup C rfl dX6_init_35 ?_
  obtain ⟨mc48, ms49, r55, h⟩ := h
  refine q_callJX (As := []) (st := [.ref (gad o37), .ref (gad a0)]) (o := o37) C iX6_28 kX4_init r55 ⟨Nat.le_of_ble_eq_true rfl, Nat.le_of_ble_eq_true rfl⟩ rfl rfl (Nat.le_of_ble_eq_true rfl) (mX4_init l D cy mc48 ms49 kd38 ln30 rh31 _ o37 M39 hk46 h) dX6_init_36 (fun kd50 ln51 rh52 M53 kn54 h => ?_)
  have kp56 := gKp_t kp47 kn54
  refine q_putF (x := o37) (v := .ref (gad o37)) (ty := .object RX4) C hin fX6_29 (fun _ _ _ q => by cases q; rfl) (gKp_k kn54 (gKp_k kn45 (gKp_k kn33 (gKp_k kn24 (gKp_k kn13 (gKp_k kn6 hk0 (by decide)) (by decide)) (by decide)) (by decide)) (by decide)) (by decide)) (fun _ _ _ q => by cases q; rfl) (gfo_put rfl g40) rfl rfl (Int.le_of_lt g40) (fun j q => absurd (show (1 : Nat) = j + 3 from q) (by omega)) dX6_init_39 ?_
  refine q_aload_n C 0 rfl rfl dX6_init_42 ?_
  obtain ⟨r57, h⟩ := h
  refine q_new C wX6_19 r57.1 r57.2 dX6_init_43 (fun o58 kd59 M60 g61 g62 g63 e64 e65 kn66 => ?_)
  have h := h o58 kd59 M60 g61 g62 g63 e64 e65
  have hk67 : kd59 o58 = 1 := by rw [e64]; exact gkn_s
  have kp68 := gKp_t kp56 kn66
  refine q_dup C rfl dX6_init_46 ?_
  obtain ⟨mc69, ms70, r76, h⟩ := h
  refine q_callJX (As := []) (st := [.ref (gad o58), .ref (gad a0)]) (o := o58) C iX6_21 kX1_init r76 ⟨Nat.le_of_ble_eq_true rfl, Nat.le_of_ble_eq_true rfl⟩ rfl rfl (Nat.le_of_ble_eq_true rfl) (mX1_init l D cy mc69 ms70 kd59 ln51 rh52 _ o58 M60 hk67 h) dX6_init_47 (fun kd71 ln72 rh73 M74 kn75 h => ?_)
  have kp77 := gKp_t kp68 kn75
  refine q_putF (x := o58) (v := .ref (gad o58)) (ty := .object RX1) C hin fX6_33 (fun _ _ _ q => by cases q; rfl) (gKp_k kn75 (gKp_k kn66 (gKp_k kn54 (gKp_k kn45 (gKp_k kn33 (gKp_k kn24 (gKp_k kn13 (gKp_k kn6 hk0 (by decide)) (by decide)) (by decide)) (by decide)) (by decide)) (by decide)) (by decide)) (by decide)) (fun _ _ _ q => by cases q; rfl) (gfo_put rfl g61) rfl rfl (Int.le_of_lt g61) (fun j q => absurd (show (1 : Nat) = j + 3 from q) (by omega)) dX6_init_50 ?_
  refine q_aload_n C 0 rfl rfl dX6_init_53 ?_
  obtain ⟨r78, h⟩ := h
  refine q_new C wX6_26 r78.1 r78.2 dX6_init_54 (fun o79 kd80 M81 g82 g83 g84 e85 e86 kn87 => ?_)
  have h := h o79 kd80 M81 g82 g83 g84 e85 e86
  have hk88 : kd80 o79 = 4 := by rw [e85]; exact gkn_s
  have kp89 := gKp_t kp77 kn87
  refine q_dup C rfl dX6_init_57 ?_
  obtain ⟨mc90, ms91, r97, h⟩ := h
  refine q_callJX (As := []) (st := [.ref (gad o79), .ref (gad a0)]) (o := o79) C iX6_28 kX4_init r97 ⟨Nat.le_of_ble_eq_true rfl, Nat.le_of_ble_eq_true rfl⟩ rfl rfl (Nat.le_of_ble_eq_true rfl) (mX4_init l D cy mc90 ms91 kd80 ln72 rh73 _ o79 M81 hk88 h) dX6_init_58 (fun kd92 ln93 rh94 M95 kn96 h => ?_)
  have kp98 := gKp_t kp89 kn96
  refine q_putF (x := o79) (v := .ref (gad o79)) (ty := .object RX4) C hin fX6_36 (fun _ _ _ q => by cases q; rfl) (gKp_k kn96 (gKp_k kn87 (gKp_k kn75 (gKp_k kn66 (gKp_k kn54 (gKp_k kn45 (gKp_k kn33 (gKp_k kn24 (gKp_k kn13 (gKp_k kn6 hk0 (by decide)) (by decide)) (by decide)) (by decide)) (by decide)) (by decide)) (by decide)) (by decide)) (by decide)) (by decide)) (fun _ _ _ q => by cases q; rfl) (gfo_put rfl g82) rfl rfl (Int.le_of_lt g82) (fun j q => absurd (show (1 : Nat) = j + 3 from q) (by omega)) dX6_init_61 ?_
  refine q_aload_n C 0 rfl rfl dX6_init_64 ?_
  refine q_sipush C (by decide) dX6_init_65 ?_
  obtain ⟨r99, h⟩ := h
  obtain ⟨r100, h⟩ := h
  refine q_newput (t0 := 0) (ty := .int) C hin fX6_39 (fun _ _ _ q => by cases q; rfl) (gKp_k kn96 (gKp_k kn87 (gKp_k kn75 (gKp_k kn66 (gKp_k kn54 (gKp_k kn45 (gKp_k kn33 (gKp_k kn24 (gKp_k kn13 (gKp_k kn6 hk0 (by decide)) (by decide)) (by decide)) (by decide)) (by decide)) (by decide)) (by decide)) (by decide)) (by decide)) (by decide)) rfl rfl ac8 rfl (fun _ => rfl) (fun _ _ _ => rfl) (fun _ _ _ q => by cases q; rfl) r99 (show 0 ≤ (635 : Int) ∧ (635 : Int) ≤ 67108864 by decide) (by decide) r100.1 r100.2 dX6_init_68 dX6_init_70 (fun ln101 rh102 e103 kn104 => ?_)
  have h := h ln101 e103
  have kp105 := gKp_t kp98 kn104
  refine q_aload_n C 0 rfl rfl dX6_init_73 ?_
  refine q_bipush C (by decide) dX6_init_74 ?_
  obtain ⟨r106, h⟩ := h
  obtain ⟨r107, h⟩ := h
  refine q_newput (t0 := 0) (ty := .int) C hin fX6_43 (fun _ _ _ q => by cases q; rfl) (gKp_k kn104 (gKp_k kn96 (gKp_k kn87 (gKp_k kn75 (gKp_k kn66 (gKp_k kn54 (gKp_k kn45 (gKp_k kn33 (gKp_k kn24 (gKp_k kn13 (gKp_k kn6 hk0 (by decide)) (by decide)) (by decide)) (by decide)) (by decide)) (by decide)) (by decide)) (by decide)) (by decide)) (by decide)) (by decide)) rfl rfl ac8 rfl (fun _ => rfl) (fun _ _ _ => rfl) (fun _ _ _ q => by cases q; rfl) r106 (show 0 ≤ (40 : Int) ∧ (40 : Int) ≤ 67108864 by decide) (by decide) r107.1 r107.2 dX6_init_76 dX6_init_78 (fun ln108 rh109 e110 kn111 => ?_)
  have h := h ln108 e110
  have kp112 := gKp_t kp105 kn111
  refine q_aload_n C 0 rfl rfl dX6_init_81 ?_
  refine q_bipush C (by decide) dX6_init_82 ?_
  obtain ⟨r113, h⟩ := h
  obtain ⟨r114, h⟩ := h
  refine q_newput (t0 := 0) (ty := .int) C hin fX6_46 (fun _ _ _ q => by cases q; rfl) (gKp_k kn111 (gKp_k kn104 (gKp_k kn96 (gKp_k kn87 (gKp_k kn75 (gKp_k kn66 (gKp_k kn54 (gKp_k kn45 (gKp_k kn33 (gKp_k kn24 (gKp_k kn13 (gKp_k kn6 hk0 (by decide)) (by decide)) (by decide)) (by decide)) (by decide)) (by decide)) (by decide)) (by decide)) (by decide)) (by decide)) (by decide)) (by decide)) rfl rfl ac8 rfl (fun _ => rfl) (fun _ _ _ => rfl) (fun _ _ _ q => by cases q; rfl) r113 (show 0 ≤ (13 : Int) ∧ (13 : Int) ≤ 67108864 by decide) (by decide) r114.1 r114.2 dX6_init_84 dX6_init_86 (fun ln115 rh116 e117 kn118 => ?_)
  have h := h ln115 e117
  have kp119 := gKp_t kp112 kn118
  refine q_aload_n C 0 rfl rfl dX6_init_89 ?_
  obtain ⟨r120, h⟩ := h
  refine q_new C wX6_9 r120.1 r120.2 dX6_init_90 (fun o121 kd122 M123 g124 g125 g126 e127 e128 kn129 => ?_)
  have h := h o121 kd122 M123 g124 g125 g126 e127 e128
  have hk130 : kd122 o121 = 0 := by rw [e127]; exact gkn_s
  have kp131 := gKp_t kp119 kn129
  refine q_dup C rfl dX6_init_93 ?_
  refine q_bipush C (by decide) dX6_init_94 ?_
  obtain ⟨mc132, ms133, r139, h⟩ := h
  refine q_callIX (As := [.int (gI 8)]) (st := [.ref (gad o121), .ref (gad a0)]) (o := o121) C iX6_49 kX0_init r139 ⟨Nat.le_of_ble_eq_true rfl, Nat.le_of_ble_eq_true rfl⟩ rfl rfl (Nat.le_of_ble_eq_true rfl) (mX0_init l D cy mc132 ms133 kd122 ln115 rh116 _ o121 8 M123 hk130 h) dX6_init_96 (fun kd134 ln135 rh136 M137 kn138 h => ?_)
  have kp140 := gKp_t kp131 kn138
  refine q_putO (x := o121) (Cn := RX0) C fX6_52 (gKp_k kn138 (gKp_k kn129 (gKp_k kn118 (gKp_k kn111 (gKp_k kn104 (gKp_k kn96 (gKp_k kn87 (gKp_k kn75 (gKp_k kn66 (gKp_k kn54 (gKp_k kn45 (gKp_k kn33 (gKp_k kn24 (gKp_k kn13 (gKp_k kn6 hk0 (by decide)) (by decide)) (by decide)) (by decide)) (by decide)) (by decide)) (by decide)) (by decide)) (by decide)) (by decide)) (by decide)) (by decide)) (by decide)) (by decide)) (by decide)) (fun _ _ _ q => by cases q; rfl) rfl g124 (Int.le_of_lt g124) dX6_init_99 ?_
  refine q_aload_n C 0 rfl rfl dX6_init_102 ?_
  obtain ⟨r141, h⟩ := h
  refine q_get (v := .ref (rh136 a0 0)) C fX6_11 (gKp_k kn138 (gKp_k kn129 (gKp_k kn118 (gKp_k kn111 (gKp_k kn104 (gKp_k kn96 (gKp_k kn87 (gKp_k kn75 (gKp_k kn66 (gKp_k kn54 (gKp_k kn45 (gKp_k kn33 (gKp_k kn24 (gKp_k kn13 (gKp_k kn6 hk0 (by decide)) (by decide)) (by decide)) (by decide)) (by decide)) (by decide)) (by decide)) (by decide)) (by decide)) (by decide)) (by decide)) (by decide)) (by decide)) (by decide)) (by decide)) (if_neg (Int.not_lt.mpr r141)) dX6_init_103 (fun g142 => ?_)
  refine q_bipush C (by decide) dX6_init_106 ?_
  refine q_aload_n C 0 rfl rfl dX6_init_108 ?_
  refine q_get (v := gR ((gu M137 a0 1 (-1) o121) a0 1 (-1))) C fX6_52 (gKp_k kn138 (gKp_k kn129 (gKp_k kn118 (gKp_k kn111 (gKp_k kn104 (gKp_k kn96 (gKp_k kn87 (gKp_k kn75 (gKp_k kn66 (gKp_k kn54 (gKp_k kn45 (gKp_k kn33 (gKp_k kn24 (gKp_k kn13 (gKp_k kn6 hk0 (by decide)) (by decide)) (by decide)) (by decide)) (by decide)) (by decide)) (by decide)) (by decide)) (by decide)) (by decide)) (by decide)) (by decide)) (by decide)) (by decide)) (by decide)) rfl dX6_init_109 (fun g143 => ?_)
  obtain ⟨r144, h⟩ := h
  refine q_nn r144 (by decide) ?_
  obtain ⟨r145, h⟩ := h
  obtain ⟨r146, h⟩ := h
  refine q_aast (t0 := 4) C (gKp_k kn138 (gKp_k kn129 (gKp_k kn118 (gKp_k kn111 (gKp_k kn104 (gKp_k kn96 (gKp_k kn87 (gKp_k kn75 (gKp_k kn66 (gKp_k kn54 (gKp_k kn45 (gKp_k kn33 (gKp_k kn24 (gKp_k kn13 (gKp_k kn6 hk0 (by decide)) (by decide)) (by decide)) (by decide)) (by decide)) (by decide)) (by decide)) (by decide)) (by decide)) (by decide)) (by decide)) (by decide)) (by decide)) (by decide)) (by decide)) rfl (fun _ _ => rfl) rfl r144 (by decide) ⟨_, _, rfl⟩ (Int.le_of_lt r145) r146 dX6_init_112 ?_
  exact hret kd134 ln135 rh136 (gu (gu M137 a0 1 (-1) o121) a0 0 8 ((gu M137 a0 1 (-1) o121) a0 1 (-1))) _ _ _ _ r139.1 r139.2 kp140 dX6_init_113 h
set_option maxHeartbeats 4000000 in
set_option maxRecDepth 100000 in
theorem mX6_make (l : Launch) (D : va_G) (cy : Nat → ClassId) (mc ms : Nat) (kd : gKd) (ln : gLn) (rh : gRh) (post : Int → gKd → gLn → gM → Prop) (a0 : Int) (a1 : Int) (M : gM) (hk0 : kd a0 = 6) (h : wX6_make mc ms kd ln post a0 a1 M) : gXI l D cy yX6_make cX6_make 2 .int 7 177 mc ms [.ref (gad a0), .int (gI a1)] kd ln rh M post := by
  refine gXI_of (own := RX6) (by decide) rfl (Nat.le_of_ble_eq_true rfl) ?_
  intro p e s m args below meth c A H0 Q C hin hret
  have t48 : ∀ (kd_ : gKd) (ln_ : gLn) (rh_ : gRh) (c_ s_ : Nat) (kp_ : gKp kd ln rh kd_ ln_ rh_) (M : gM), wX6_make_48 mc ms post a0 a1 kd_ ln_ c_ s_ M → gW p l e (gRx 7 177 mc ms) s m args below meth c D cy A H0 Q 2 kd_ ln_ rh_ c_ s_ M 48 [(0, .ref (gad a0)), (1, .int (gI a1))] [] := by
    intro  kd_ ln_ rh_ c_ s_ kp_  M h
    unfold wX6_make_48 at h
    obtain ⟨r34, h⟩ := h
    refine q_aload_n C 0 rfl rfl dX6_make_48 ?_
    obtain ⟨r35, h⟩ := h
    refine q_get (v := .ref (rh_ a0 2)) C fX6_15 (gKp_k kp_ hk0 (by decide)) (if_neg (Int.not_lt.mpr r35)) dX6_make_49 (fun g36 => ?_)
    refine q_iload_n C 1 rfl rfl dX6_make_52 ?_
    refine q_iconst C dX6_make_53 ?_
    obtain ⟨r37, h⟩ := h
    refine q_zast C (gKp_k kp_ hk0 (by decide)) rfl (rng1 (Or.inr rfl)) (Or.inr rfl) r37 dX6_make_54 ?_
    refine q_aload_n C 0 rfl rfl dX6_make_55 ?_
    refine q_get (v := gR ((gu M a0 2 a1 1) a0 1 (-1))) C fX6_52 (gKp_k kp_ hk0 (by decide)) rfl dX6_make_56 (fun g38 => ?_)
    obtain ⟨r39, h⟩ := h
    refine q_nn r39 (by decide) ?_
    refine q_iload_n C 1 rfl rfl dX6_make_59 ?_
    obtain ⟨mc40, ms41, r47, h⟩ := h
    refine q_callXR (As := [.int (gI a1)]) (st := []) C vX6_60 kX0_prepare r47 ⟨Nat.le_of_ble_eq_true rfl, Nat.le_of_ble_eq_true rfl⟩ rfl r39 ⟨_, _, rfl⟩ (by decide) rfl (Nat.le_of_ble_eq_true rfl) (mX0_prepare l D cy mc40 ms41 kd_ ln_ rh_ _ ((gu M a0 2 a1 1) a0 1 (-1)) a1 (gu M a0 2 a1 1) r39 h) dX6_make_60 (fun c48 kd42 ln43 rh44 M45 kn46 h => ?_)
    have kp49 := gKp_t kp_ kn46
    obtain ⟨r50, h⟩ := h
    refine q_callVI (As := []) (st := []) C vX6_64 kX5_size r47 ⟨Nat.le_of_ble_eq_true rfl, Nat.le_of_ble_eq_true rfl⟩ rfl r50 ⟨_, _, rfl⟩ (by decide) rfl (Nat.le_of_ble_eq_true rfl) (mX5_size l D cy kd42 ln43 rh44 _ c48 M45 r50 h) dX6_make_63 (fun c52 M51 g53 h => ?_)
    have h := h g53
    exact hret c52 kd42 ln43 rh44 M51 _ _ _ _ r47.1 r47.2 kp49 dX6_make_66 g53 h
  unfold wX6_make at h
  refine q_iload_n C 1 rfl rfl dX6_make_0 ?_
  obtain ⟨r1, h⟩ := h
  refine q_if_lt (tgt := 9) C r1 (by decide) dX6_make_1 (fun b2 => ?_) (fun b2 => ?_)
  · have h := h.1 b2
    refine q_iconst C dX6_make_9 ?_
    exact hret (-1) kd ln rh M _ _ _ _ (Nat.zero_le _) (Nat.zero_le _) gKp_r dX6_make_10 (show rng (-1) by decide) h
  · have h := h.2 b2
    refine q_iload_n C 1 rfl rfl dX6_make_4 ?_
    refine q_iconst C dX6_make_5 ?_
    refine q_icmp_le (tgt := 11) C r1 (show rng 2 by decide) (by decide) dX6_make_6 (fun b3 => ?_) (fun b3 => ?_)
    · have h := h.1 b3
      refine q_iload_n C 1 rfl rfl dX6_make_11 ?_
      refine q_iconst C dX6_make_12 ?_
      refine q_icmp_ne (tgt := 48) C r1 (show rng 2 by decide) (by decide) dX6_make_13 (fun b4 => ?_) (fun b4 => ?_)
      · have h := h.1 b4
        exact t48  kd ln rh 0 0 gKp_r M h
      · have h := h.2 b4
        refine q_aload_n C 0 rfl rfl dX6_make_16 ?_
        refine q_get (v := gR (M a0 1 (-1))) C fX6_52 hk0 rfl dX6_make_17 (fun g5 => ?_)
        obtain ⟨r6, h⟩ := h
        refine q_nn r6 (by decide) ?_
        refine q_iconst C dX6_make_20 ?_
        obtain ⟨mc7, ms8, r14, h⟩ := h
        refine q_callXR (As := [.int (gI 0)]) (st := []) C vX6_60 kX0_prepare r14 ⟨Nat.le_of_ble_eq_true rfl, Nat.le_of_ble_eq_true rfl⟩ rfl r6 ⟨_, _, rfl⟩ (by decide) rfl (Nat.le_of_ble_eq_true rfl) (mX0_prepare l D cy mc7 ms8 kd ln rh _ (M a0 1 (-1)) 0 M r6 h) dX6_make_21 (fun c15 kd9 ln10 rh11 M12 kn13 h => ?_)
        have kp16 := gKp_t gKp_r kn13
        refine q_pop C rfl dX6_make_24 ?_
        refine q_aload_n C 0 rfl rfl dX6_make_25 ?_
        refine q_get (v := gR (M12 a0 1 (-1))) C fX6_52 (gKp_k kn13 hk0 (by decide)) rfl dX6_make_26 (fun g17 => ?_)
        obtain ⟨r18, h⟩ := h
        refine q_nn r18 (by decide) ?_
        refine q_iconst C dX6_make_29 ?_
        obtain ⟨mc19, ms20, r26, h⟩ := h
        refine q_callXR (As := [.int (gI 1)]) (st := []) C vX6_60 kX0_prepare r26 ⟨Nat.le_of_ble_eq_true rfl, Nat.le_of_ble_eq_true rfl⟩ rfl r18 ⟨_, _, rfl⟩ (by decide) rfl (Nat.le_of_ble_eq_true rfl) (mX0_prepare l D cy mc19 ms20 kd9 ln10 rh11 _ (M12 a0 1 (-1)) 1 M12 r18 h) dX6_make_30 (fun c27 kd21 ln22 rh23 M24 kn25 h => ?_)
        have kp28 := gKp_t kp16 kn25
        refine q_pop C rfl dX6_make_33 ?_
        refine q_aload_n C 0 rfl rfl dX6_make_34 ?_
        obtain ⟨r29, h⟩ := h
        refine q_get (v := .ref (rh23 a0 2)) C fX6_15 (gKp_k kn25 (gKp_k kn13 hk0 (by decide)) (by decide)) (if_neg (Int.not_lt.mpr r29)) dX6_make_35 (fun g30 => ?_)
        refine q_iconst C dX6_make_38 ?_
        refine q_iconst C dX6_make_39 ?_
        obtain ⟨r31, h⟩ := h
        refine q_zast C (gKp_k kn25 (gKp_k kn13 hk0 (by decide)) (by decide)) rfl (rng1 (Or.inr rfl)) (Or.inr rfl) r31 dX6_make_40 ?_
        refine q_aload_n C 0 rfl rfl dX6_make_41 ?_
        refine q_get (v := .ref (rh23 a0 2)) C fX6_15 (gKp_k kn25 (gKp_k kn13 hk0 (by decide)) (by decide)) (if_neg (Int.not_lt.mpr r29)) dX6_make_42 (fun g32 => ?_)
        refine q_iconst C dX6_make_45 ?_
        refine q_iconst C dX6_make_46 ?_
        obtain ⟨r33, h⟩ := h
        refine q_zast C (gKp_k kn25 (gKp_k kn13 hk0 (by decide)) (by decide)) rfl (rng1 (Or.inr rfl)) (Or.inr rfl) r33 dX6_make_47 ?_
        exact t48  kd21 ln22 rh23 (0 + mc7 + mc19) (0 + ms8 + ms20) kp28 (gu (gu M24 a0 2 0 1) a0 2 1 1) h
    · have h := h.2 b3
      refine q_iconst C dX6_make_9 ?_
      exact hret (-1) kd ln rh M _ _ _ _ (Nat.zero_le _) (Nat.zero_le _) gKp_r dX6_make_10 (show rng (-1) by decide) h
