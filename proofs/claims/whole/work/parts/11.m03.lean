set_option maxHeartbeats 4000000 in
set_option maxRecDepth 100000 in
theorem mX5_sumUpCell (l : Launch) (D : va_G) (cy : Nat → ClassId) (kd : gKd) (ln : gLn) (rh : gRh) (post : gM → Prop) (a0 : Int) (a1 : Int) (a2 : Int) (M : gM) (hk0 : kd a0 = 5) (h : wX5_sumUpCell kd ln post a0 a1 a2 M) : gMV l D cy yX5_sumUpCell cX5_sumUpCell 5 1 20 [.ref (gad a0), .int (gI a1), .int (gI a2)] kd ln rh M post := by
  refine gMV_of (own := RX5) (by decide) rfl (Nat.le_of_ble_eq_true rfl) ?_
  intro p e s m args below meth c A H0 Q C hret
  have t64 : ∀ (y0 : Int) (y1 : Int) (M : gM), wX5_sumUpCell_64 kd ln post a0 a1 a2 y0 y1 M → gW p l e (gRm 1 20) s m args below meth c D cy A H0 Q 5 kd ln rh 0 0 M 64 [] [.int (gI y0), .int (gI y1), .ref (gad a0)] := by
    intro  y0 y1 M h
    unfold wX5_sumUpCell_64 at h
    refine q_iadd C dX5_sumUpCell_64 ?_
    obtain ⟨r41, h⟩ := h
    refine q_put (x := (y1 + y0)) (ty := .int) C fX5_95 hk0 (fun _ _ _ q => by cases q; rfl) (congrArg (fun z => Value.int (gI z)) gu_s) rfl rfl r41 (fun j q => absurd (show (0 : Nat) = j + 3 from q) (by omega)) dX5_sumUpCell_65 ?_
    exact hret (gu M a0 7 (-1) (y1 + y0)) _ _ dX5_sumUpCell_68 h
  have t63 : ∀ (y0 : Int) (M : gM), wX5_sumUpCell_63 kd ln post a0 a1 a2 y0 M → gW p l e (gRm 1 20) s m args below meth c D cy A H0 Q 5 kd ln rh 0 0 M 63 [] [.int (gI y0), .ref (gad a0)] := by
    intro  y0 M h
    unfold wX5_sumUpCell_63 at h
    refine q_iconst C dX5_sumUpCell_63 ?_
    exact t64  0 y0 M h
  unfold wX5_sumUpCell at h
  refine q_iload_n C 1 rfl rfl dX5_sumUpCell_0 ?_
  refine q_callSI (As := [.int (gI a1)]) (st := []) C vX5_92 kX5_turnOf ⟨Nat.le_of_ble_eq_true rfl, Nat.le_of_ble_eq_true rfl⟩ ⟨Nat.le_of_ble_eq_true rfl, Nat.le_of_ble_eq_true rfl⟩ rfl rfl (Nat.le_of_ble_eq_true rfl) (mX5_turnOf l D cy kd ln rh _ a1 M  h) dX5_sumUpCell_1 (fun c2 M1 g3 h => ?_)
  have h := h g3
  refine q_istore_n (lv' := [(3, .int (gI c2)), (0, .ref (gad a0)), (1, .int (gI a1)), (2, .int (gI a2))]) C rfl (by decide) rfl dX5_sumUpCell_4 ?_
  refine q_aload_n C 1 rfl rfl dX5_sumUpCell_5 ?_
  obtain ⟨r4, h⟩ := h
  refine q_get (v := .ref (rh a0 1)) C fX5_44 hk0 (if_neg (Int.not_lt.mpr r4)) dX5_sumUpCell_6 (fun g5 => ?_)
  refine q_iload_n C 2 rfl rfl dX5_sumUpCell_9 ?_
  obtain ⟨r6, h⟩ := h
  refine q_bald C hk0 rfl (fun _ q => q) r6 dX5_sumUpCell_10 (fun g7 => ?_)
  have h := h g7
  refine q_topi (fun v8 ev8 => ?_)
  have h := h v8 ev8
  have gv8 : rng v8 := by rw [ev8]; exact g7
  refine q_istore (lv' := [(4, .int (gI v8)), (3, .int (gI c2)), (0, .ref (gad a0)), (1, .int (gI a1)), (2, .int (gI a2))]) C (by decide) rfl dX5_sumUpCell_11 ?_
  refine q_aload_n C 2 rfl rfl dX5_sumUpCell_13 ?_
  obtain ⟨r9, h⟩ := h
  refine q_get (v := .ref (rh a0 4)) C fX5_15 hk0 (if_neg (Int.not_lt.mpr r9)) dX5_sumUpCell_14 (fun g10 => ?_)
  refine q_iload_n C 1 rfl rfl dX5_sumUpCell_17 ?_
  refine q_dup2 C rfl rfl dX5_sumUpCell_18 ?_
  obtain ⟨r11, h⟩ := h
  refine q_iald C hk0 rfl (fun _ q => q) r11 dX5_sumUpCell_19 (fun g12 => ?_)
  have h := h g12
  refine q_iconst C dX5_sumUpCell_20 ?_
  refine q_iadd C dX5_sumUpCell_21 ?_
  obtain ⟨r13, h⟩ := h
  refine q_iast C hk0 rfl r13 r11 dX5_sumUpCell_22 ?_
  refine q_iload C 0 rfl dX5_sumUpCell_23 ?_
  refine q_iconst C dX5_sumUpCell_25 ?_
  refine q_icmp_ne (tgt := 69) C gv8 (show rng (-1) by decide) (by decide) dX5_sumUpCell_26 (fun b14 => ?_) (fun b14 => ?_)
  · have h := h.1 b14
    refine q_aload_n C 2 rfl rfl dX5_sumUpCell_69 ?_
    obtain ⟨r15, h⟩ := h
    refine q_get (v := .ref (rh a0 10)) C fX5_24 hk0 (if_neg (Int.not_lt.mpr r15)) dX5_sumUpCell_70 (fun g16 => ?_)
    refine q_iconst C dX5_sumUpCell_73 ?_
    refine q_iload C 0 rfl dX5_sumUpCell_74 ?_
    refine q_imul C dX5_sumUpCell_76 ?_
    refine q_iload_n C 1 rfl rfl dX5_sumUpCell_77 ?_
    refine q_iadd C dX5_sumUpCell_78 ?_
    refine q_dup2 C rfl rfl dX5_sumUpCell_79 ?_
    obtain ⟨r17, h⟩ := h
    refine q_iald C hk0 rfl (fun _ q => q) r17 dX5_sumUpCell_80 (fun g18 => ?_)
    have h := h g18
    refine q_iconst C dX5_sumUpCell_81 ?_
    refine q_iadd C dX5_sumUpCell_82 ?_
    obtain ⟨r19, h⟩ := h
    refine q_iast C hk0 rfl r19 r17 dX5_sumUpCell_83 ?_
    refine q_iload C 0 rfl dX5_sumUpCell_84 ?_
    refine q_aload_n C 2 rfl rfl dX5_sumUpCell_86 ?_
    obtain ⟨r20, h⟩ := h
    refine q_get (v := .ref (rh a0 5)) C fX5_18 hk0 (if_neg (Int.not_lt.mpr r20)) dX5_sumUpCell_87 (fun g21 => ?_)
    refine q_iload_n C 1 rfl rfl dX5_sumUpCell_90 ?_
    obtain ⟨r22, h⟩ := h
    refine q_iald C hk0 rfl (fun _ q => q) r22 dX5_sumUpCell_91 (fun g23 => ?_)
    have h := h g23
    refine q_icmp_le (tgt := 110) C gv8 g23 (by decide) dX5_sumUpCell_92 (fun b24 => ?_) (fun b24 => ?_)
    · have h := h.1 b24
      exact hret (gu (gu M1 a0 4 c2 ((M1 a0 4 c2) + 1)) a0 10 ((2 * v8) + c2) (((gu M1 a0 4 c2 ((M1 a0 4 c2) + 1)) a0 10 ((2 * v8) + c2)) + 1)) _ _ dX5_sumUpCell_110 h
    · have h := h.2 b24
      refine q_aload_n C 2 rfl rfl dX5_sumUpCell_95 ?_
      refine q_get (v := .ref (rh a0 5)) C fX5_18 hk0 (if_neg (Int.not_lt.mpr r20)) dX5_sumUpCell_96 (fun g25 => ?_)
      refine q_iload_n C 1 rfl rfl dX5_sumUpCell_99 ?_
      refine q_iload C 0 rfl dX5_sumUpCell_100 ?_
      refine q_iast C hk0 rfl gv8 r22 dX5_sumUpCell_102 ?_
      refine q_aload_n C 2 rfl rfl dX5_sumUpCell_103 ?_
      obtain ⟨r26, h⟩ := h
      refine q_get (v := .ref (rh a0 6)) C fX5_21 hk0 (if_neg (Int.not_lt.mpr r26)) dX5_sumUpCell_104 (fun g27 => ?_)
      refine q_iload_n C 1 rfl rfl dX5_sumUpCell_107 ?_
      refine q_iload_n C 4 rfl rfl dX5_sumUpCell_108 ?_
      obtain ⟨r28, h⟩ := h
      obtain ⟨r29, h⟩ := h
      refine q_iast C hk0 rfl r29 r28 dX5_sumUpCell_109 ?_
      exact hret (gu (gu (gu (gu M1 a0 4 c2 ((M1 a0 4 c2) + 1)) a0 10 ((2 * v8) + c2) (((gu M1 a0 4 c2 ((M1 a0 4 c2) + 1)) a0 10 ((2 * v8) + c2)) + 1)) a0 5 c2 v8) a0 6 c2 a2) _ _ dX5_sumUpCell_110 h
  · have h := h.2 b14
    refine q_aload_n C 2 rfl rfl dX5_sumUpCell_29 ?_
    obtain ⟨r30, h⟩ := h
    refine q_get (v := .ref (rh a0 3)) C fX5_9 hk0 (if_neg (Int.not_lt.mpr r30)) dX5_sumUpCell_30 (fun g31 => ?_)
    refine q_iload_n C 1 rfl rfl dX5_sumUpCell_33 ?_
    refine q_dup2 C rfl rfl dX5_sumUpCell_34 ?_
    obtain ⟨r32, h⟩ := h
    refine q_iald C hk0 rfl (fun _ q => q) r32 dX5_sumUpCell_35 (fun g33 => ?_)
    have h := h g33
    refine q_iconst C dX5_sumUpCell_36 ?_
    refine q_iadd C dX5_sumUpCell_37 ?_
    obtain ⟨r34, h⟩ := h
    refine q_iast C hk0 rfl r34 r32 dX5_sumUpCell_38 ?_
    refine q_aload_n C 2 rfl rfl dX5_sumUpCell_39 ?_
    refine q_dup C rfl dX5_sumUpCell_40 ?_
    refine q_get (v := .int (gI ((gu (gu M1 a0 4 c2 ((M1 a0 4 c2) + 1)) a0 3 c2 (((gu M1 a0 4 c2 ((M1 a0 4 c2) + 1)) a0 3 c2) + 1)) a0 7 (-1)))) C fX5_95 hk0 rfl dX5_sumUpCell_41 (fun g35 => ?_)
    have h := h g35
    refine q_iload_n C 1 rfl rfl dX5_sumUpCell_44 ?_
    refine q_if_ne (tgt := 63) C g3 (by decide) dX5_sumUpCell_45 (fun b36 => ?_) (fun b36 => ?_)
    · have h := h.1 b36
      refine q_lv (lv' := []) [] rfl ?_
      exact t63  ((gu (gu M1 a0 4 c2 ((M1 a0 4 c2) + 1)) a0 3 c2 (((gu M1 a0 4 c2 ((M1 a0 4 c2) + 1)) a0 3 c2) + 1)) a0 7 (-1)) (gu (gu M1 a0 4 c2 ((M1 a0 4 c2) + 1)) a0 3 c2 (((gu M1 a0 4 c2 ((M1 a0 4 c2) + 1)) a0 3 c2) + 1)) h
    · have h := h.2 b36
      refine q_aload_n C 2 rfl rfl dX5_sumUpCell_48 ?_
      refine q_get (v := .ref (rh a0 1)) C fX5_44 hk0 (if_neg (Int.not_lt.mpr r4)) dX5_sumUpCell_49 (fun g37 => ?_)
      refine q_iload_n C 3 rfl rfl dX5_sumUpCell_52 ?_
      refine q_iconst C dX5_sumUpCell_53 ?_
      refine q_iadd C dX5_sumUpCell_54 ?_
      obtain ⟨r38, h⟩ := h
      refine q_bald C hk0 rfl (fun _ q => q) r38 dX5_sumUpCell_55 (fun g39 => ?_)
      have h := h g39
      refine q_if_lt (tgt := 63) C g39 (by decide) dX5_sumUpCell_56 (fun b40 => ?_) (fun b40 => ?_)
      · have h := h.1 b40
        refine q_lv (lv' := []) [] rfl ?_
        exact t63  ((gu (gu M1 a0 4 c2 ((M1 a0 4 c2) + 1)) a0 3 c2 (((gu M1 a0 4 c2 ((M1 a0 4 c2) + 1)) a0 3 c2) + 1)) a0 7 (-1)) (gu (gu M1 a0 4 c2 ((M1 a0 4 c2) + 1)) a0 3 c2 (((gu M1 a0 4 c2 ((M1 a0 4 c2) + 1)) a0 3 c2) + 1)) h
      · have h := h.2 b40
        refine q_iconst C dX5_sumUpCell_59 ?_
        refine q_goto (tgt := 64) C (by decide) dX5_sumUpCell_60 ?_
        refine q_lv (lv' := []) [] rfl ?_
        exact t64  1 ((gu (gu M1 a0 4 c2 ((M1 a0 4 c2) + 1)) a0 3 c2 (((gu M1 a0 4 c2 ((M1 a0 4 c2) + 1)) a0 3 c2) + 1)) a0 7 (-1)) (gu (gu M1 a0 4 c2 ((M1 a0 4 c2) + 1)) a0 3 c2 (((gu M1 a0 4 c2 ((M1 a0 4 c2) + 1)) a0 3 c2) + 1)) h
set_option maxHeartbeats 4000000 in
set_option maxRecDepth 100000 in
theorem mX5_sumUp (l : Launch) (D : va_G) (cy : Nat → ClassId) (kd : gKd) (ln : gLn) (rh : gRh) (post : gM → Prop) (a0 : Int) (M : gM) (hk0 : kd a0 = 5) (h : wX5_sumUp kd ln post a0 M) : gMV l D cy yX5_sumUp cX5_sumUp 3 2 44 [.ref (gad a0)] kd ln rh M post := by
  refine gMV_of (own := RX5) (by decide) rfl (Nat.le_of_ble_eq_true rfl) ?_
  intro p e s m args below meth c A H0 Q C hret
  have t33 : ∀ (k4 : Int → Int → gM → Prop), (∀ (x1 : Int), ∀ (x2 : Int), ∀ (M : gM), k4 x1 x2 M → gW p l e (gRm 2 44) s m args below meth c D cy A H0 Q 3 kd ln rh 0 0 M 4 [(0, .ref (gad a0)), (1, .int (gI x1)), (2, .int (gI x2))] []) → ∀ (x1 : Int) (x2 : Int) (M : gM), wX5_sumUp_33 kd ln post a0 k4 x1 x2 M → gW p l e (gRm 2 44) s m args below meth c D cy A H0 Q 3 kd ln rh 0 0 M 33 [(0, .ref (gad a0)), (1, .int (gI x1)), (2, .int (gI x2))] [] := by
    intro k4 hk4_ x1 x2 M h
    unfold wX5_sumUp_33 at h
    refine q_iinc (lv' := [(2, .int (gI (x2 + 1))), (0, .ref (gad a0)), (1, .int (gI x1))]) C 2 rfl (by decide) rfl dX5_sumUp_33 ?_
    refine q_goto (tgt := 4) C (by decide) dX5_sumUp_36 ?_
    refine q_lv (lv' := [(0, .ref (gad a0)), (1, .int (gI x1)), (2, .int (gI (x2 + 1)))]) [1, 2, 0] rfl ?_
    exact hk4_ x1 (x2 + 1) M h
  have t4 : ∀ (n : Nat) (x1 : Int) (x2 : Int) (M : gM), wX5_sumUp_4 kd ln post a0 n x1 x2 M → gW p l e (gRm 2 44) s m args below meth c D cy A H0 Q 3 kd ln rh 0 0 M 4 [(0, .ref (gad a0)), (1, .int (gI x1)), (2, .int (gI x2))] [] := by
    intro n
    induction n with
    | zero => intro x1 x2 M h; exact absurd h (by simp [wX5_sumUp_4])
    | succ n ih =>
      intro x1 x2 M h
      have hk4_ := ih
      rw [wX5_sumUp_4] at h
      refine q_iload_n C 2 rfl rfl dX5_sumUp_4 ?_
      refine q_aload_n C 0 rfl rfl dX5_sumUp_5 ?_
      obtain ⟨r1, h⟩ := h
      refine q_get (v := .ref (rh a0 1)) C fX5_44 hk0 (if_neg (Int.not_lt.mpr r1)) dX5_sumUp_6 (fun g2 => ?_)
      refine q_alen (t0 := 1) C hk0 rfl r1 dX5_sumUp_9 (fun g3 => ?_)
      have h := h g3
      have g4 : rng (ln a0 1) := ⟨by omega, by omega⟩
      obtain ⟨r5, h⟩ := h
      refine q_icmp_ge (tgt := 39) C r5 g4 (by decide) dX5_sumUp_10 (fun b6 => ?_) (fun b6 => ?_)
      · have h := h.1 b6
        exact hret M _ _ dX5_sumUp_39 h
      · have h := h.2 b6
        refine q_aload_n C 0 rfl rfl dX5_sumUp_13 ?_
        refine q_get (v := .ref (rh a0 1)) C fX5_44 hk0 (if_neg (Int.not_lt.mpr r1)) dX5_sumUp_14 (fun g7 => ?_)
        refine q_iload_n C 2 rfl rfl dX5_sumUp_17 ?_
        obtain ⟨r8, h⟩ := h
        refine q_bald C hk0 rfl (fun _ q => q) r8 dX5_sumUp_18 (fun g9 => ?_)
        have h := h g9
        refine q_bipush C (by decide) dX5_sumUp_19 ?_
        refine q_icmp_eq (tgt := 33) C g9 (show rng (-2) by decide) (by decide) dX5_sumUp_21 (fun b10 => ?_) (fun b10 => ?_)
        · have h := h.1 b10
          exact t33 (wX5_sumUp_4 kd ln post a0 n) hk4_ x1 x2 M h
        · have h := h.2 b10
          refine q_aload_n C 0 rfl rfl dX5_sumUp_24 ?_
          refine q_iload_n C 2 rfl rfl dX5_sumUp_25 ?_
          refine q_iload_n C 1 rfl rfl dX5_sumUp_26 ?_
          refine q_callVV (As := [.int (gI x2), .int (gI x1)]) (st := []) C vX5_88 kX5_sumUpCell ⟨Nat.le_of_ble_eq_true rfl, Nat.le_of_ble_eq_true rfl⟩ ⟨Nat.le_of_ble_eq_true rfl, Nat.le_of_ble_eq_true rfl⟩ rfl hk0 ⟨_, _, rfl⟩ (by decide) rfl (Nat.le_of_ble_eq_true rfl) (mX5_sumUpCell l D cy kd ln rh _ a0 x2 x1 M hk0 h) dX5_sumUp_27 (fun M11 h => ?_)
          refine q_iinc (lv' := [(1, .int (gI (x1 + 1))), (0, .ref (gad a0)), (2, .int (gI x2))]) C 1 rfl (by decide) rfl dX5_sumUp_30 ?_
          refine q_lv (lv' := [(0, .ref (gad a0)), (1, .int (gI (x1 + 1))), (2, .int (gI x2))]) [1, 0, 2] rfl ?_
          exact t33 (wX5_sumUp_4 kd ln post a0 n) hk4_ (x1 + 1) x2 M11 h
  unfold wX5_sumUp at h
  refine q_iconst C dX5_sumUp_0 ?_
  refine q_istore_n (lv' := [(1, .int (gI 0)), (0, .ref (gad a0))]) C rfl (by decide) rfl dX5_sumUp_1 ?_
  refine q_iconst C dX5_sumUp_2 ?_
  refine q_istore_n (lv' := [(2, .int (gI 0)), (1, .int (gI 0)), (0, .ref (gad a0))]) C rfl (by decide) rfl dX5_sumUp_3 ?_
  refine q_lv (lv' := [(0, .ref (gad a0)), (1, .int (gI 0)), (2, .int (gI 0))]) [2, 1, 0] rfl ?_
  obtain ⟨j4, h⟩ := h
  exact t4  j4 0 0 M h
set_option maxHeartbeats 4000000 in
set_option maxRecDepth 100000 in
theorem mX1_add (l : Launch) (D : va_G) (cy : Nat → ClassId) (kd : gKd) (ln : gLn) (rh : gRh) (post : gM → Prop) (a0 : Int) (a1 : Int) (a2 : Int) (a3 : Int) (a4 : Int) (M : gM) (hk0 : kd a0 = 1) (h : wX1_add kd ln post a0 a1 a2 a3 a4 M) : gMV l D cy yX1_add cX1_add 6 0 0 [.ref (gad a0), .int (gI a1), .int (gI a2), .int (gI a3), .int (gI a4)] kd ln rh M post := by
  refine gMV_of (own := RX1) (by decide) rfl (Nat.le_of_ble_eq_true rfl) ?_
  intro p e s m args below meth c A H0 Q C hret
  unfold wX1_add at h
  refine q_aload_n C 0 rfl rfl dX1_add_0 ?_
  refine q_get (v := .int (gI (M a0 0 (-1)))) C fX1_15 hk0 rfl dX1_add_1 (fun g1 => ?_)
  have h := h g1
  refine q_bipush C (by decide) dX1_add_4 ?_
  refine q_icmp_lt (tgt := 10) C g1 (show rng 36 by decide) (by decide) dX1_add_6 (fun b2 => ?_) (fun b2 => ?_)
  · have h := h.1 b2
    refine q_aload_n C 0 rfl rfl dX1_add_10 ?_
    refine q_get (v := .int (gI (M a0 0 (-1)))) C fX1_15 hk0 rfl dX1_add_11 (fun g3 => ?_)
    refine q_iconst C dX1_add_14 ?_
    refine q_imul C dX1_add_15 ?_
    refine q_topi (fun v4 ev4 => ?_)
    have h := h v4 ev4
    refine q_istore (lv' := [(5, .int (gI v4)), (0, .ref (gad a0)), (1, .int (gI a1)), (2, .int (gI a2)), (3, .int (gI a3)), (4, .int (gI a4))]) C (by decide) rfl dX1_add_16 ?_
    refine q_aload_n C 1 rfl rfl dX1_add_18 ?_
    obtain ⟨r5, h⟩ := h
    refine q_get (v := .ref (rh a0 1)) C fX1_11 hk0 (if_neg (Int.not_lt.mpr r5)) dX1_add_19 (fun g6 => ?_)
    refine q_iload C 0 rfl dX1_add_22 ?_
    refine q_iconst C dX1_add_24 ?_
    refine q_iadd C dX1_add_25 ?_
    refine q_iload_n C 2 rfl rfl dX1_add_26 ?_
    obtain ⟨r7, h⟩ := h
    obtain ⟨r8, h⟩ := h
    refine q_iast C hk0 rfl r8 r7 dX1_add_27 ?_
    refine q_aload_n C 1 rfl rfl dX1_add_28 ?_
    refine q_get (v := .ref (rh a0 1)) C fX1_11 hk0 (if_neg (Int.not_lt.mpr r5)) dX1_add_29 (fun g9 => ?_)
    refine q_iload C 0 rfl dX1_add_32 ?_
    refine q_iconst C dX1_add_34 ?_
    refine q_iadd C dX1_add_35 ?_
    refine q_iload_n C 3 rfl rfl dX1_add_36 ?_
    obtain ⟨r10, h⟩ := h
    obtain ⟨r11, h⟩ := h
    refine q_iast C hk0 rfl r11 r10 dX1_add_37 ?_
    refine q_aload_n C 1 rfl rfl dX1_add_38 ?_
    refine q_get (v := .ref (rh a0 1)) C fX1_11 hk0 (if_neg (Int.not_lt.mpr r5)) dX1_add_39 (fun g12 => ?_)
    refine q_iload C 0 rfl dX1_add_42 ?_
    refine q_iconst C dX1_add_44 ?_
    refine q_iadd C dX1_add_45 ?_
    refine q_iload_n C 4 rfl rfl dX1_add_46 ?_
    obtain ⟨r13, h⟩ := h
    obtain ⟨r14, h⟩ := h
    refine q_iast C hk0 rfl r14 r13 dX1_add_47 ?_
    refine q_aload_n C 1 rfl rfl dX1_add_48 ?_
    refine q_get (v := .ref (rh a0 1)) C fX1_11 hk0 (if_neg (Int.not_lt.mpr r5)) dX1_add_49 (fun g15 => ?_)
    refine q_iload C 0 rfl dX1_add_52 ?_
    refine q_iconst C dX1_add_54 ?_
    refine q_iadd C dX1_add_55 ?_
    refine q_iload C 5 rfl dX1_add_56 ?_
    obtain ⟨r16, h⟩ := h
    obtain ⟨r17, h⟩ := h
    refine q_iast C hk0 rfl r17 r16 dX1_add_58 ?_
    refine q_aload_n C 1 rfl rfl dX1_add_59 ?_
    refine q_dup C rfl dX1_add_60 ?_
    refine q_get (v := .int (gI ((gu (gu (gu (gu M a0 1 (v4 + 0) a1) a0 1 (v4 + 1) a2) a0 1 (v4 + 2) a3) a0 1 (v4 + 3) a4) a0 0 (-1)))) C fX1_15 hk0 rfl dX1_add_61 (fun g18 => ?_)
    have h := h g18
    refine q_iconst C dX1_add_64 ?_
    refine q_iadd C dX1_add_65 ?_
    obtain ⟨r19, h⟩ := h
    refine q_put (x := (((gu (gu (gu (gu M a0 1 (v4 + 0) a1) a0 1 (v4 + 1) a2) a0 1 (v4 + 2) a3) a0 1 (v4 + 3) a4) a0 0 (-1)) + 1)) (ty := .int) C fX1_15 hk0 (fun _ _ _ q => by cases q; rfl) (congrArg (fun z => Value.int (gI z)) gu_s) rfl rfl r19 (fun j q => absurd (show (0 : Nat) = j + 3 from q) (by omega)) dX1_add_66 ?_
    exact hret (gu (gu (gu (gu (gu M a0 1 (v4 + 0) a1) a0 1 (v4 + 1) a2) a0 1 (v4 + 2) a3) a0 1 (v4 + 3) a4) a0 0 (-1) (((gu (gu (gu (gu M a0 1 (v4 + 0) a1) a0 1 (v4 + 1) a2) a0 1 (v4 + 2) a3) a0 1 (v4 + 3) a4) a0 0 (-1)) + 1)) _ _ dX1_add_69 h
  · have h := h.2 b2
    exact hret M _ _ dX1_add_9 h
set_option maxHeartbeats 4000000 in
set_option maxRecDepth 100000 in
theorem mX1_init (l : Launch) (D : va_G) (cy : Nat → ClassId) (mc ms : Nat) (kd : gKd) (ln : gLn) (rh : gRh) (post : gKd → gLn → gM → Prop) (a0 : Int) (M : gM) (hk0 : kd a0 = 1) (h : wX1_init mc ms kd ln post a0 M) : gXV l D cy yX1_init cX1_init 1 1 32 mc ms [.ref (gad a0)] kd ln rh M post := by
  refine gXV_of (own := RX1) (by decide) rfl (Nat.le_of_ble_eq_true rfl) ?_
  intro p e s m args below meth c A H0 Q C hin hret
  unfold wX1_init at h
  refine q_aload_n C 0 rfl rfl dX1_init_0 ?_
  refine q_objInit (o := a0) C obX1_3 (Nat.le_of_ble_eq_true rfl) (Nat.le_of_ble_eq_true rfl) dX1_init_1 ?_
  refine q_aload_n C 0 rfl rfl dX1_init_4 ?_
  refine q_sipush C (by decide) dX1_init_5 ?_
  obtain ⟨r1, h⟩ := h
  obtain ⟨r2, h⟩ := h
  refine q_newput (t0 := 0) (ty := .int) C hin fX1_11 (fun _ _ _ q => by cases q; rfl) hk0 rfl rfl ac8 rfl (fun _ => rfl) (fun _ _ _ => rfl) (fun _ _ _ q => by cases q; rfl) r1 (show 0 ≤ (144 : Int) ∧ (144 : Int) ≤ 67108864 by decide) (by decide) r2.1 r2.2 dX1_init_8 dX1_init_10 (fun ln3 rh4 e5 kn6 => ?_)
  have h := h ln3 e5
  have kp7 := gKp_t gKp_r kn6
  exact hret kd ln3 rh4 (gza M a0 1) _ _ _ _ r2.1 r2.2 kp7 dX1_init_13 h
set_option maxHeartbeats 4000000 in
set_option maxRecDepth 100000 in
theorem mX1_keep (l : Launch) (D : va_G) (cy : Nat → ClassId) (kd : gKd) (ln : gLn) (rh : gRh) (post : gM → Prop) (a0 : Int) (a1 : Int) (M : gM) (hk0 : kd a0 = 1) (h : wX1_keep kd ln post a0 a1 M) : gMV l D cy yX1_keep cX1_keep 5 1 25 [.ref (gad a0), .int (gI a1)] kd ln rh M post := by
  refine gMV_of (own := RX1) (by decide) rfl (Nat.le_of_ble_eq_true rfl) ?_
  intro p e s m args below meth c A H0 Q C hret
  have t67 : ∀ (k12 : Int → Int → gM → Prop), (∀ (x2 : Int), ∀ (x3 : Int), ∀ (M : gM), k12 x2 x3 M → gW p l e (gRm 1 25) s m args below meth c D cy A H0 Q 5 kd ln rh 0 0 M 12 [(0, .ref (gad a0)), (1, .int (gI a1)), (2, .int (gI x2)), (3, .int (gI x3))] []) → ∀ (x2 : Int) (x3 : Int) (M : gM), wX1_keep_67 kd ln post a0 a1 k12 x2 x3 M → gW p l e (gRm 1 25) s m args below meth c D cy A H0 Q 5 kd ln rh 0 0 M 67 [(0, .ref (gad a0)), (1, .int (gI a1)), (2, .int (gI x2)), (3, .int (gI x3))] [] := by
    intro k12 hk12_ x2 x3 M h
    unfold wX1_keep_67 at h
    refine q_iinc (lv' := [(3, .int (gI (x3 + 1))), (0, .ref (gad a0)), (1, .int (gI a1)), (2, .int (gI x2))]) C 3 rfl (by decide) rfl dX1_keep_67 ?_
    refine q_goto (tgt := 12) C (by decide) dX1_keep_70 ?_
    refine q_lv (lv' := [(0, .ref (gad a0)), (1, .int (gI a1)), (2, .int (gI x2)), (3, .int (gI (x3 + 1)))]) [1, 2, 3, 0] rfl ?_
    exact hk12_ x2 (x3 + 1) M h
  have t12 : ∀ (n : Nat) (x2 : Int) (x3 : Int) (M : gM), wX1_keep_12 kd ln post a0 a1 n x2 x3 M → gW p l e (gRm 1 25) s m args below meth c D cy A H0 Q 5 kd ln rh 0 0 M 12 [(0, .ref (gad a0)), (1, .int (gI a1)), (2, .int (gI x2)), (3, .int (gI x3))] [] := by
    intro n
    induction n with
    | zero => intro x2 x3 M h; exact absurd h (by simp [wX1_keep_12])
    | succ n ih =>
      intro x2 x3 M h
      have hk12_ := ih
      rw [wX1_keep_12] at h
      refine q_iload_n C 3 rfl rfl dX1_keep_12 ?_
      refine q_iload_n C 2 rfl rfl dX1_keep_13 ?_
      obtain ⟨r3, h⟩ := h
      obtain ⟨r4, h⟩ := h
      refine q_icmp_ge (tgt := 73) C r3 r4 (by decide) dX1_keep_14 (fun b5 => ?_) (fun b5 => ?_)
      · have h := h.1 b5
        exact hret M _ _ dX1_keep_73 h
      · have h := h.2 b5
        refine q_iload_n C 3 rfl rfl dX1_keep_17 ?_
        refine q_iconst C dX1_keep_18 ?_
        refine q_imul C dX1_keep_19 ?_
        refine q_topi (fun v6 ev6 => ?_)
        have h := h v6 ev6
        refine q_istore (lv' := [(4, .int (gI v6)), (0, .ref (gad a0)), (1, .int (gI a1)), (2, .int (gI x2)), (3, .int (gI x3))]) C (by decide) rfl dX1_keep_20 ?_
        refine q_aload_n C 1 rfl rfl dX1_keep_22 ?_
        obtain ⟨r7, h⟩ := h
        refine q_get (v := .ref (rh a0 1)) C fX1_11 hk0 (if_neg (Int.not_lt.mpr r7)) dX1_keep_23 (fun g8 => ?_)
        refine q_iload C 0 rfl dX1_keep_26 ?_
        refine q_iconst C dX1_keep_28 ?_
        refine q_iadd C dX1_keep_29 ?_
        obtain ⟨r9, h⟩ := h
        refine q_iald C hk0 rfl (fun _ q => q) r9 dX1_keep_30 (fun g10 => ?_)
        have h := h g10
        refine q_iload_n C 2 rfl rfl dX1_keep_31 ?_
        obtain ⟨r11, h⟩ := h
        refine q_icmp_ne (tgt := 67) C g10 r11 (by decide) dX1_keep_32 (fun b12 => ?_) (fun b12 => ?_)
        · have h := h.1 b12
          refine q_lv (lv' := [(0, .ref (gad a0)), (1, .int (gI a1)), (2, .int (gI x2)), (3, .int (gI x3))]) [1, 2, 3, 4] rfl ?_
          exact t67 (wX1_keep_12 kd ln post a0 a1 n) hk12_ x2 x3 M h
        · have h := h.2 b12
          refine q_aload_n C 1 rfl rfl dX1_keep_35 ?_
          refine q_aload_n C 1 rfl rfl dX1_keep_36 ?_
          refine q_get (v := .ref (rh a0 1)) C fX1_11 hk0 (if_neg (Int.not_lt.mpr r7)) dX1_keep_37 (fun g13 => ?_)
          refine q_iload C 0 rfl dX1_keep_40 ?_
          refine q_iconst C dX1_keep_42 ?_
          refine q_iadd C dX1_keep_43 ?_
          obtain ⟨r14, h⟩ := h
          refine q_iald C hk0 rfl (fun _ q => q) r14 dX1_keep_44 (fun g15 => ?_)
          have h := h g15
          refine q_aload_n C 1 rfl rfl dX1_keep_45 ?_
          refine q_get (v := .ref (rh a0 1)) C fX1_11 hk0 (if_neg (Int.not_lt.mpr r7)) dX1_keep_46 (fun g16 => ?_)
          refine q_iload C 0 rfl dX1_keep_49 ?_
          refine q_iconst C dX1_keep_51 ?_
          refine q_iadd C dX1_keep_52 ?_
          obtain ⟨r17, h⟩ := h
          refine q_iald C hk0 rfl (fun _ q => q) r17 dX1_keep_53 (fun g18 => ?_)
          have h := h g18
          refine q_aload_n C 1 rfl rfl dX1_keep_54 ?_
          refine q_get (v := .ref (rh a0 1)) C fX1_11 hk0 (if_neg (Int.not_lt.mpr r7)) dX1_keep_55 (fun g19 => ?_)
          refine q_iload C 0 rfl dX1_keep_58 ?_
          refine q_iconst C dX1_keep_60 ?_
          refine q_iadd C dX1_keep_61 ?_
          obtain ⟨r20, h⟩ := h
          refine q_iald C hk0 rfl (fun _ q => q) r20 dX1_keep_62 (fun g21 => ?_)
          have h := h g21
          refine q_iload_n C 2 rfl rfl dX1_keep_63 ?_
          refine q_callVV (As := [.int (gI (M a0 1 (v6 + 0))), .int (gI (M a0 1 (v6 + 1))), .int (gI (M a0 1 (v6 + 2))), .int (gI a1)]) (st := []) C vX1_19 kX1_add ⟨Nat.le_of_ble_eq_true rfl, Nat.le_of_ble_eq_true rfl⟩ ⟨Nat.le_of_ble_eq_true rfl, Nat.le_of_ble_eq_true rfl⟩ rfl hk0 ⟨_, _, rfl⟩ (by decide) rfl (Nat.le_of_ble_eq_true rfl) (mX1_add l D cy kd ln rh _ a0 (M a0 1 (v6 + 0)) (M a0 1 (v6 + 1)) (M a0 1 (v6 + 2)) a1 M hk0 h) dX1_keep_64 (fun M22 h => ?_)
          refine q_lv (lv' := [(0, .ref (gad a0)), (1, .int (gI a1)), (2, .int (gI x2)), (3, .int (gI x3))]) [1, 2, 3, 4] rfl ?_
          exact t67 (wX1_keep_12 kd ln post a0 a1 n) hk12_ x2 x3 M22 h
  unfold wX1_keep at h
  refine q_aload_n C 0 rfl rfl dX1_keep_0 ?_
  refine q_get (v := .int (gI (M a0 0 (-1)))) C fX1_15 hk0 rfl dX1_keep_1 (fun g1 => ?_)
  have h := h g1
  refine q_topi (fun v2 ev2 => ?_)
  have h := h v2 ev2
  have gv2 : rng v2 := by rw [ev2]; exact g1
  refine q_istore_n (lv' := [(2, .int (gI v2)), (0, .ref (gad a0)), (1, .int (gI a1))]) C rfl (by decide) rfl dX1_keep_4 ?_
  refine q_aload_n C 1 rfl rfl dX1_keep_5 ?_
  refine q_iconst C dX1_keep_6 ?_
  refine q_put (x := 0) (ty := .int) C fX1_15 hk0 (fun _ _ _ q => by cases q; rfl) (congrArg (fun z => Value.int (gI z)) gu_s) rfl rfl (show rng 0 by decide) (fun j q => absurd (show (0 : Nat) = j + 3 from q) (by omega)) dX1_keep_7 ?_
  refine q_iconst C dX1_keep_10 ?_
  refine q_istore_n (lv' := [(3, .int (gI 0)), (2, .int (gI v2)), (0, .ref (gad a0)), (1, .int (gI a1))]) C rfl (by decide) rfl dX1_keep_11 ?_
  refine q_lv (lv' := [(0, .ref (gad a0)), (1, .int (gI a1)), (2, .int (gI v2)), (3, .int (gI 0))]) [2, 3, 1, 0] rfl ?_
  obtain ⟨j12, h⟩ := h
  exact t12  j12 v2 0 (gu M a0 0 (-1) 0) h
set_option maxHeartbeats 4000000 in
set_option maxRecDepth 100000 in
theorem mX1_tell (l : Launch) (D : va_G) (cy : Nat → ClassId) (kd : gKd) (ln : gLn) (rh : gRh) (post : Int → gM → Prop) (a0 : Int) (a1 : Int) (a2 : Int) (M : gM) (hk0 : kd a0 = 1) (h : wX1_tell kd ln post a0 a1 a2 M) : gMI l D cy yX1_tell cX1_tell 3 .int 0 0 [.ref (gad a0), .int (gI a1), .int (gI a2)] kd ln rh M post := by
  refine gMI_of (own := RX1) (by decide) rfl (Nat.le_of_ble_eq_true rfl) ?_
  intro p e s m args below meth c A H0 Q C hret
  have t21 : ∀ (M : gM), wX1_tell_21 kd ln post a0 a1 a2  M → gW p l e (gRm 0 0) s m args below meth c D cy A H0 Q 3 kd ln rh 0 0 M 21 [] [] := by
    intro   M h
    unfold wX1_tell_21 at h
    refine q_iconst C dX1_tell_21 ?_
    refine q_goto (tgt := 35) C (by decide) dX1_tell_22 ?_
    exact hret (-1) M _ _ dX1_tell_35 (show rng (-1) by decide) h
  unfold wX1_tell at h
  refine q_iload_n C 1 rfl rfl dX1_tell_0 ?_
  obtain ⟨r1, h⟩ := h
  refine q_if_lt (tgt := 21) C r1 (by decide) dX1_tell_1 (fun b2 => ?_) (fun b2 => ?_)
  · have h := h.1 b2
    refine q_lv (lv' := []) [] rfl ?_
    exact t21  M h
  · have h := h.2 b2
    refine q_iload_n C 1 rfl rfl dX1_tell_4 ?_
    refine q_aload_n C 0 rfl rfl dX1_tell_5 ?_
    refine q_get (v := .int (gI (M a0 0 (-1)))) C fX1_15 hk0 rfl dX1_tell_6 (fun g3 => ?_)
    have h := h g3
    refine q_icmp_ge (tgt := 21) C r1 g3 (by decide) dX1_tell_9 (fun b4 => ?_) (fun b4 => ?_)
    · have h := h.1 b4
      refine q_lv (lv' := []) [] rfl ?_
      exact t21  M h
    · have h := h.2 b4
      refine q_iload_n C 2 rfl rfl dX1_tell_12 ?_
      obtain ⟨r5, h⟩ := h
      refine q_if_lt (tgt := 21) C r5 (by decide) dX1_tell_13 (fun b6 => ?_) (fun b6 => ?_)
      · have h := h.1 b6
        refine q_lv (lv' := []) [] rfl ?_
        exact t21  M h
      · have h := h.2 b6
        refine q_iload_n C 2 rfl rfl dX1_tell_16 ?_
        refine q_iconst C dX1_tell_17 ?_
        refine q_icmp_lt (tgt := 25) C r5 (show rng 4 by decide) (by decide) dX1_tell_18 (fun b7 => ?_) (fun b7 => ?_)
        · have h := h.1 b7
          refine q_aload_n C 0 rfl rfl dX1_tell_25 ?_
          obtain ⟨r8, h⟩ := h
          refine q_get (v := .ref (rh a0 1)) C fX1_11 hk0 (if_neg (Int.not_lt.mpr r8)) dX1_tell_26 (fun g9 => ?_)
          refine q_iload_n C 1 rfl rfl dX1_tell_29 ?_
          refine q_iconst C dX1_tell_30 ?_
          refine q_imul C dX1_tell_31 ?_
          refine q_iload_n C 2 rfl rfl dX1_tell_32 ?_
          refine q_iadd C dX1_tell_33 ?_
          obtain ⟨r10, h⟩ := h
          refine q_iald C hk0 rfl (fun _ q => q) r10 dX1_tell_34 (fun g11 => ?_)
          have h := h g11
          exact hret (M a0 1 ((a1 * 4) + a2)) M _ _ dX1_tell_35 g11 h
        · have h := h.2 b7
          refine q_lv (lv' := []) [] rfl ?_
          exact t21  M h
set_option maxHeartbeats 4000000 in
set_option maxRecDepth 100000 in
theorem mX4_init (l : Launch) (D : va_G) (cy : Nat → ClassId) (mc ms : Nat) (kd : gKd) (ln : gLn) (rh : gRh) (post : gKd → gLn → gM → Prop) (a0 : Int) (M : gM) (hk0 : kd a0 = 4) (h : wX4_init mc ms kd ln post a0 M) : gXV l D cy yX4_init cX4_init 1 1 32 mc ms [.ref (gad a0)] kd ln rh M post := by
  refine gXV_of (own := RX4) (by decide) rfl (Nat.le_of_ble_eq_true rfl) ?_
  intro p e s m args below meth c A H0 Q C hin hret
  unfold wX4_init at h
  refine q_aload_n C 0 rfl rfl dX4_init_0 ?_
  refine q_objInit (o := a0) C obX4_3 (Nat.le_of_ble_eq_true rfl) (Nat.le_of_ble_eq_true rfl) dX4_init_1 ?_
  exact hret kd ln rh M _ _ _ _ (Nat.zero_le _) (Nat.zero_le _) gKp_r dX4_init_4 h
set_option maxHeartbeats 4000000 in
set_option maxRecDepth 100000 in
theorem mX4_play (l : Launch) (D : va_G) (cy : Nat → ClassId) (kd : gKd) (ln : gLn) (rh : gRh) (post : gM → Prop) (a0 : Int) (a1 : Int) (M : gM) (hk0 : kd a0 = 4) (hk1 : kd a1 = 1) (h : wX4_play kd ln post a0 a1 M) : gMV l D cy yX4_play cX4_play 4 1 22 [.ref (gad a0), .ref (gad a1)] kd ln rh M post := by
  refine gMV_of (own := RX4) (by decide) rfl (Nat.le_of_ble_eq_true rfl) ?_
  intro p e s m args below meth c A H0 Q C hret
  have t73 : ∀ (M : gM), wX4_play_73 kd ln post a0 a1  M → gW p l e (gRm 1 22) s m args below meth c D cy A H0 Q 4 kd ln rh 0 0 M 73 [(0, .ref (gad a0))] [] := by
    intro   M h
    unfold wX4_play_73 at h
    refine q_aload_n C 0 rfl rfl dX4_play_73 ?_
    refine q_iconst C dX4_play_74 ?_
    refine q_aload_n C 0 rfl rfl dX4_play_75 ?_
    refine q_get (v := .int (gI (M a0 4 (-1)))) C fX4_24 hk0 rfl dX4_play_76 (fun g16 => ?_)
    have h := h g16
    refine q_isub C dX4_play_79 ?_
    obtain ⟨r17, h⟩ := h
    refine q_put (x := (1 - (M a0 4 (-1)))) (ty := .int) C fX4_24 hk0 (fun _ _ _ q => by cases q; rfl) (congrArg (fun z => Value.int (gI z)) gu_s) rfl rfl r17 (fun j q => absurd (show (0 : Nat) = j + 3 from q) (by omega)) dX4_play_80 ?_
    exact hret (gu M a0 4 (-1) (1 - (M a0 4 (-1)))) _ _ dX4_play_83 h
  have t70 : ∀ (y0 : Int) (M : gM), wX4_play_70 kd ln post a0 a1 y0 M → gW p l e (gRm 1 22) s m args below meth c D cy A H0 Q 4 kd ln rh 0 0 M 70 [(0, .ref (gad a0))] [.int (gI y0), .ref (gad a0)] := by
    intro  y0 M h
    unfold wX4_play_70 at h
    obtain ⟨r18, h⟩ := h
    refine q_put (x := y0) (ty := .int) C fX4_9 hk0 (fun _ _ _ q => by cases q; rfl) (congrArg (fun z => Value.int (gI z)) gu_s) rfl rfl r18 (fun j q => absurd (show (0 : Nat) = j + 3 from q) (by omega)) dX4_play_70 ?_
    exact t73  (gu M a0 0 (-1) y0) h
  unfold wX4_play at h
  refine q_aload_n C 1 rfl rfl dX4_play_0 ?_
  refine q_iconst C dX4_play_1 ?_
  refine q_iconst C dX4_play_2 ?_
  refine q_callVI (As := [.int (gI 0), .int (gI 1)]) (st := []) C vX4_29 kX1_tell ⟨Nat.le_of_ble_eq_true rfl, Nat.le_of_ble_eq_true rfl⟩ ⟨Nat.le_of_ble_eq_true rfl, Nat.le_of_ble_eq_true rfl⟩ rfl hk1 ⟨_, _, rfl⟩ (by decide) rfl (Nat.le_of_ble_eq_true rfl) (mX1_tell l D cy kd ln rh _ a1 0 1 M hk1 h) dX4_play_3 (fun c2 M1 g3 h => ?_)
  have h := h g3
  refine q_istore_n (lv' := [(2, .int (gI c2)), (0, .ref (gad a0)), (1, .ref (gad a1))]) C rfl (by decide) rfl dX4_play_6 ?_
  refine q_aload_n C 2 rfl rfl dX4_play_7 ?_
  refine q_iconst C dX4_play_8 ?_
  refine q_iconst C dX4_play_9 ?_
  refine q_callVI (As := [.int (gI 0), .int (gI 2)]) (st := []) C vX4_29 kX1_tell ⟨Nat.le_of_ble_eq_true rfl, Nat.le_of_ble_eq_true rfl⟩ ⟨Nat.le_of_ble_eq_true rfl, Nat.le_of_ble_eq_true rfl⟩ rfl hk1 ⟨_, _, rfl⟩ (by decide) rfl (Nat.le_of_ble_eq_true rfl) (mX1_tell l D cy kd ln rh _ a1 0 2 M1 hk1 h) dX4_play_10 (fun c5 M4 g6 h => ?_)
  have h := h g6
  refine q_istore_n (lv' := [(3, .int (gI c5)), (2, .int (gI c2)), (0, .ref (gad a0)), (1, .ref (gad a1))]) C rfl (by decide) rfl dX4_play_13 ?_
  refine q_aload_n C 2 rfl rfl dX4_play_14 ?_
  refine q_get (v := .int (gI (M4 a0 4 (-1)))) C fX4_24 hk0 rfl dX4_play_15 (fun g7 => ?_)
  have h := h g7
  refine q_iconst C dX4_play_18 ?_
  refine q_icmp_ne (tgt := 30) C g7 (show rng 1 by decide) (by decide) dX4_play_19 (fun b8 => ?_) (fun b8 => ?_)
  · have h := h.1 b8
    refine q_aload_n C 3 rfl rfl dX4_play_30 ?_
    refine q_iconst C dX4_play_31 ?_
    refine q_iconst C dX4_play_32 ?_
    refine q_callVI (As := [.int (gI 0), .int (gI 0)]) (st := []) C vX4_29 kX1_tell ⟨Nat.le_of_ble_eq_true rfl, Nat.le_of_ble_eq_true rfl⟩ ⟨Nat.le_of_ble_eq_true rfl, Nat.le_of_ble_eq_true rfl⟩ rfl hk1 ⟨_, _, rfl⟩ (by decide) rfl (Nat.le_of_ble_eq_true rfl) (mX1_tell l D cy kd ln rh _ a1 0 0 M4 hk1 h) dX4_play_33 (fun c10 M9 g11 h => ?_)
    have h := h g11
    refine q_aload_n C 2 rfl rfl dX4_play_36 ?_
    refine q_get (v := .int (gI (M9 a0 1 (-1)))) C fX4_15 hk0 rfl dX4_play_37 (fun g12 => ?_)
    have h := h g12
    refine q_icmp_ne (tgt := 51) C g11 g12 (by decide) dX4_play_40 (fun b13 => ?_) (fun b13 => ?_)
    · have h := h.1 b13
      refine q_aload_n C 2 rfl rfl dX4_play_51 ?_
      refine q_iload_n C 1 rfl rfl dX4_play_52 ?_
      refine q_put (x := c2) (ty := .int) C fX4_21 hk0 (fun _ _ _ q => by cases q; rfl) (congrArg (fun z => Value.int (gI z)) gu_s) rfl rfl g3 (fun j q => absurd (show (0 : Nat) = j + 3 from q) (by omega)) dX4_play_53 ?_
      refine q_aload_n C 2 rfl rfl dX4_play_56 ?_
      refine q_iload_n C 0 rfl rfl dX4_play_57 ?_
      refine q_iconst C dX4_play_58 ?_
      refine q_icmp_ne (tgt := 69) C g6 (show rng (-1) by decide) (by decide) dX4_play_59 (fun b14 => ?_) (fun b14 => ?_)
      · have h := h.1 b14
        refine q_iload_n C 0 rfl rfl dX4_play_69 ?_
        refine q_lv (lv' := [(0, .ref (gad a0))]) [2] rfl ?_
        exact t70  c5 (gu M9 a0 3 (-1) c2) h
      · have h := h.2 b14
        refine q_aload_n C 2 rfl rfl dX4_play_62 ?_
        refine q_get (v := .int (gI ((gu M9 a0 3 (-1) c2) a0 0 (-1)))) C fX4_9 hk0 rfl dX4_play_63 (fun g15 => ?_)
        have h := h g15
        refine q_goto (tgt := 70) C (by decide) dX4_play_66 ?_
        refine q_lv (lv' := [(0, .ref (gad a0))]) [2] rfl ?_
        exact t70  ((gu M9 a0 3 (-1) c2) a0 0 (-1)) (gu M9 a0 3 (-1) c2) h
    · have h := h.2 b13
      refine q_aload_n C 2 rfl rfl dX4_play_43 ?_
      refine q_iload_n C 1 rfl rfl dX4_play_44 ?_
      refine q_put (x := c2) (ty := .int) C fX4_15 hk0 (fun _ _ _ q => by cases q; rfl) (congrArg (fun z => Value.int (gI z)) gu_s) rfl rfl g3 (fun j q => absurd (show (0 : Nat) = j + 3 from q) (by omega)) dX4_play_45 ?_
      refine q_goto (tgt := 73) C (by decide) dX4_play_48 ?_
      refine q_lv (lv' := [(0, .ref (gad a0))]) [2] rfl ?_
      exact t73  (gu M9 a0 1 (-1) c2) h
  · have h := h.2 b8
    refine q_aload_n C 2 rfl rfl dX4_play_22 ?_
    refine q_iload_n C 1 rfl rfl dX4_play_23 ?_
    refine q_put (x := c2) (ty := .int) C fX4_18 hk0 (fun _ _ _ q => by cases q; rfl) (congrArg (fun z => Value.int (gI z)) gu_s) rfl rfl g3 (fun j q => absurd (show (0 : Nat) = j + 3 from q) (by omega)) dX4_play_24 ?_
    refine q_goto (tgt := 73) C (by decide) dX4_play_27 ?_
    refine q_lv (lv' := [(0, .ref (gad a0))]) [2] rfl ?_
    exact t73  (gu M4 a0 2 (-1) c2) h
set_option maxHeartbeats 4000000 in
set_option maxRecDepth 100000 in
theorem mX4_set (l : Launch) (D : va_G) (cy : Nat → ClassId) (kd : gKd) (ln : gLn) (rh : gRh) (post : gM → Prop) (a0 : Int) (a1 : Int) (a2 : Int) (a3 : Int) (a4 : Int) (a5 : Int) (M : gM) (hk0 : kd a0 = 4) (h : wX4_set kd ln post a0 a1 a2 a3 a4 a5 M) : gMV l D cy yX4_set cX4_set 6 0 0 [.ref (gad a0), .int (gI a1), .int (gI a2), .int (gI a3), .int (gI a4), .int (gI a5)] kd ln rh M post := by
  refine gMV_of (own := RX4) (by decide) rfl (Nat.le_of_ble_eq_true rfl) ?_
  intro p e s m args below meth c A H0 Q C hret
  unfold wX4_set at h
  refine q_aload_n C 0 rfl rfl dX4_set_0 ?_
  refine q_iload_n C 1 rfl rfl dX4_set_1 ?_
  obtain ⟨r1, h⟩ := h
  refine q_put (x := a1) (ty := .int) C fX4_9 hk0 (fun _ _ _ q => by cases q; rfl) (congrArg (fun z => Value.int (gI z)) gu_s) rfl rfl r1 (fun j q => absurd (show (0 : Nat) = j + 3 from q) (by omega)) dX4_set_2 ?_
  refine q_aload_n C 0 rfl rfl dX4_set_5 ?_
  refine q_iload_n C 2 rfl rfl dX4_set_6 ?_
  obtain ⟨r2, h⟩ := h
  refine q_put (x := a2) (ty := .int) C fX4_15 hk0 (fun _ _ _ q => by cases q; rfl) (congrArg (fun z => Value.int (gI z)) gu_s) rfl rfl r2 (fun j q => absurd (show (0 : Nat) = j + 3 from q) (by omega)) dX4_set_7 ?_
  refine q_aload_n C 0 rfl rfl dX4_set_10 ?_
  refine q_iload_n C 3 rfl rfl dX4_set_11 ?_
  obtain ⟨r3, h⟩ := h
  refine q_put (x := a3) (ty := .int) C fX4_18 hk0 (fun _ _ _ q => by cases q; rfl) (congrArg (fun z => Value.int (gI z)) gu_s) rfl rfl r3 (fun j q => absurd (show (0 : Nat) = j + 3 from q) (by omega)) dX4_set_12 ?_
  refine q_aload_n C 0 rfl rfl dX4_set_15 ?_
  refine q_iload C 4 rfl dX4_set_16 ?_
  obtain ⟨r4, h⟩ := h
  refine q_put (x := a4) (ty := .int) C fX4_21 hk0 (fun _ _ _ q => by cases q; rfl) (congrArg (fun z => Value.int (gI z)) gu_s) rfl rfl r4 (fun j q => absurd (show (0 : Nat) = j + 3 from q) (by omega)) dX4_set_18 ?_
  refine q_aload_n C 0 rfl rfl dX4_set_21 ?_
  refine q_iload C 5 rfl dX4_set_22 ?_
  obtain ⟨r5, h⟩ := h
  refine q_put (x := a5) (ty := .int) C fX4_24 hk0 (fun _ _ _ q => by cases q; rfl) (congrArg (fun z => Value.int (gI z)) gu_s) rfl rfl r5 (fun j q => absurd (show (0 : Nat) = j + 3 from q) (by omega)) dX4_set_24 ?_
  exact hret (gu (gu (gu (gu (gu M a0 0 (-1) a1) a0 1 (-1) a2) a0 2 (-1) a3) a0 3 (-1) a4) a0 4 (-1) a5) _ _ dX4_set_27 h
set_option maxHeartbeats 4000000 in
set_option maxRecDepth 100000 in
theorem mX5_pairWith (l : Launch) (D : va_G) (cy : Nat → ClassId) (kd : gKd) (ln : gLn) (rh : gRh) (post : Int → gM → Prop) (a0 : Int) (a1 : Int) (M : gM) (hk0 : kd a0 = 5) (h : wX5_pairWith kd ln post a0 a1 M) : gMI l D cy yX5_pairWith cX5_pairWith 3 .int 0 0 [.ref (gad a0), .int (gI a1)] kd ln rh M post := by
  refine gMI_of (own := RX5) (by decide) rfl (Nat.le_of_ble_eq_true rfl) ?_
  intro p e s m args below meth c A H0 Q C hret
  have t10 : ∀ (n : Nat) (x2 : Int) (M : gM), wX5_pairWith_10 kd ln post a0 a1 n x2 M → gW p l e (gRm 0 0) s m args below meth c D cy A H0 Q 3 kd ln rh 0 0 M 10 [(0, .ref (gad a0)), (1, .int (gI a1)), (2, .int (gI x2))] [] := by
    intro n
    induction n with
    | zero => intro x2 M h; exact absurd h (by simp [wX5_pairWith_10])
    | succ n ih =>
      intro x2 M h
      have hk10_ := ih
      rw [wX5_pairWith_10] at h
      refine q_iload_n C 2 rfl rfl dX5_pairWith_10 ?_
      obtain ⟨r5, h⟩ := h
      refine q_if_le (tgt := 32) C r5 (by decide) dX5_pairWith_11 (fun b6 => ?_) (fun b6 => ?_)
      · have h := h.1 b6
        refine q_iconst C dX5_pairWith_32 ?_
        exact hret 0 M _ _ dX5_pairWith_33 (show rng 0 by decide) h
      · have h := h.2 b6
        refine q_aload_n C 0 rfl rfl dX5_pairWith_14 ?_
        obtain ⟨r7, h⟩ := h
        refine q_get (v := .ref (rh a0 9)) C fX5_54 hk0 (if_neg (Int.not_lt.mpr r7)) dX5_pairWith_15 (fun g8 => ?_)
        refine q_iload_n C 2 rfl rfl dX5_pairWith_18 ?_
        obtain ⟨r9, h⟩ := h
        refine q_iald C hk0 rfl (fun _ q => q) r9 dX5_pairWith_19 (fun g10 => ?_)
        have h := h g10
        refine q_iload_n C 1 rfl rfl dX5_pairWith_20 ?_
        obtain ⟨r11, h⟩ := h
        refine q_icmp_gt (tgt := 26) C g10 r11 (by decide) dX5_pairWith_21 (fun b12 => ?_) (fun b12 => ?_)
        · have h := h.1 b12
          refine q_iinc (lv' := [(2, .int (gI (x2 + (-1)))), (0, .ref (gad a0)), (1, .int (gI a1))]) C 2 rfl (by decide) rfl dX5_pairWith_26 ?_
          refine q_goto (tgt := 10) C (by decide) dX5_pairWith_29 ?_
          refine q_lv (lv' := [(0, .ref (gad a0)), (1, .int (gI a1)), (2, .int (gI (x2 + (-1))))]) [1, 2, 0] rfl ?_
          exact hk10_ (x2 + (-1)) M h
        · have h := h.2 b12
          refine q_iload_n C 2 rfl rfl dX5_pairWith_24 ?_
          exact hret x2 M _ _ dX5_pairWith_25 r5 h
  unfold wX5_pairWith at h
  refine q_aload_n C 0 rfl rfl dX5_pairWith_0 ?_
  refine q_get (v := gR (M a0 2 (-1))) C fX5_35 hk0 rfl dX5_pairWith_1 (fun g1 => ?_)
  obtain ⟨r2, h⟩ := h
  refine q_nn r2 (by decide) ?_
  refine q_get (v := .int (gI (M (M a0 2 (-1)) 0 (-1)))) C fX5_39 r2 rfl dX5_pairWith_4 (fun g3 => ?_)
  have h := h g3
  refine q_iconst C dX5_pairWith_7 ?_
  refine q_isub C dX5_pairWith_8 ?_
  refine q_topi (fun v4 ev4 => ?_)
  have h := h v4 ev4
  refine q_istore_n (lv' := [(2, .int (gI v4)), (0, .ref (gad a0)), (1, .int (gI a1))]) C rfl (by decide) rfl dX5_pairWith_9 ?_
  refine q_lv (lv' := [(0, .ref (gad a0)), (1, .int (gI a1)), (2, .int (gI v4))]) [1, 2, 0] rfl ?_
  obtain ⟨j10, h⟩ := h
  exact t10  j10 v4 M h
set_option maxHeartbeats 4000000 in
set_option maxRecDepth 100000 in
theorem mX5_cellNumbered (l : Launch) (D : va_G) (cy : Nat → ClassId) (kd : gKd) (ln : gLn) (rh : gRh) (post : Int → gM → Prop) (a0 : Int) (a1 : Int) (M : gM) (hk0 : kd a0 = 5) (h : wX5_cellNumbered kd ln post a0 a1 M) : gMI l D cy yX5_cellNumbered cX5_cellNumbered 5 .int 1 22 [.ref (gad a0), .int (gI a1)] kd ln rh M post := by
  refine gMI_of (own := RX5) (by decide) rfl (Nat.le_of_ble_eq_true rfl) ?_
  intro p e s m args below meth c A H0 Q C hret
  have t66 : ∀ (k36 : Int → Int → Int → gM → Prop), (∀ (x2 : Int), ∀ (x3 : Int), ∀ (x4 : Int), ∀ (M : gM), k36 x2 x3 x4 M → gW p l e (gRm 1 22) s m args below meth c D cy A H0 Q 5 kd ln rh 0 0 M 36 [(0, .ref (gad a0)), (2, .int (gI x2)), (3, .int (gI x3)), (4, .int (gI x4))] []) → ∀ (x2 : Int) (x4 : Int) (y0 : Int) (y1 : Int) (M : gM), wX5_cellNumbered_66 kd ln post a0 a1 k36 x2 x4 y0 y1 M → gW p l e (gRm 1 22) s m args below meth c D cy A H0 Q 5 kd ln rh 0 0 M 66 [(0, .ref (gad a0)), (2, .int (gI x2)), (4, .int (gI x4))] [.int (gI y0), .int (gI y1)] := by
    intro k36 hk36_ x2 x4 y0 y1 M h
    unfold wX5_cellNumbered_66 at h
    refine q_isub C dX5_cellNumbered_66 ?_
    refine q_topi (fun v24 ev24 => ?_)
    have h := h v24 ev24
    refine q_istore_n (lv' := [(3, .int (gI v24)), (0, .ref (gad a0)), (2, .int (gI x2)), (4, .int (gI x4))]) C rfl (by decide) rfl dX5_cellNumbered_67 ?_
    refine q_iload_n C 0 rfl rfl dX5_cellNumbered_68 ?_
    obtain ⟨r25, h⟩ := h
    refine q_if_ge (tgt := 75) C r25 (by decide) dX5_cellNumbered_69 (fun b26 => ?_) (fun b26 => ?_)
    · have h := h.1 b26
      refine q_iinc (lv' := [(4, .int (gI (x4 + 1))), (3, .int (gI v24)), (0, .ref (gad a0)), (2, .int (gI x2))]) C 3 rfl (by decide) rfl dX5_cellNumbered_75 ?_
      refine q_goto (tgt := 36) C (by decide) dX5_cellNumbered_78 ?_
      refine q_lv (lv' := [(0, .ref (gad a0)), (2, .int (gI x2)), (3, .int (gI v24)), (4, .int (gI (x4 + 1)))]) [2, 3, 1, 0] rfl ?_
      exact hk36_ x2 v24 (x4 + 1) M h
    · have h := h.2 b26
      refine q_iload C 3 rfl dX5_cellNumbered_72 ?_
      obtain ⟨r27, h⟩ := h
      exact hret x4 M _ _ dX5_cellNumbered_74 r27 h
  have t36 : ∀ (n : Nat) (x2 : Int) (x3 : Int) (x4 : Int) (M : gM), wX5_cellNumbered_36 kd ln post a0 a1 n x2 x3 x4 M → gW p l e (gRm 1 22) s m args below meth c D cy A H0 Q 5 kd ln rh 0 0 M 36 [(0, .ref (gad a0)), (2, .int (gI x2)), (3, .int (gI x3)), (4, .int (gI x4))] [] := by
    intro n
    induction n with
    | zero => intro x2 x3 x4 M h; exact absurd h (by simp [wX5_cellNumbered_36])
    | succ n ih =>
      intro x2 x3 x4 M h
      have hk36_ := ih
      rw [wX5_cellNumbered_36] at h
      refine q_iload C 3 rfl dX5_cellNumbered_36 ?_
      refine q_iload_n C 1 rfl rfl dX5_cellNumbered_38 ?_
      refine q_iconst C dX5_cellNumbered_39 ?_
      refine q_iadd C dX5_cellNumbered_40 ?_
      refine q_sipush C (by decide) dX5_cellNumbered_41 ?_
      refine q_imul C dX5_cellNumbered_44 ?_
      obtain ⟨r16, h⟩ := h
      obtain ⟨r17, h⟩ := h
      refine q_icmp_ge (tgt := 81) C r16 r17 (by decide) dX5_cellNumbered_45 (fun b18 => ?_) (fun b18 => ?_)
      · have h := h.1 b18
        refine q_iconst C dX5_cellNumbered_81 ?_
        exact hret (-1) M _ _ dX5_cellNumbered_82 (show rng (-1) by decide) h
      · have h := h.2 b18
        refine q_iload_n C 2 rfl rfl dX5_cellNumbered_48 ?_
        refine q_aload_n C 0 rfl rfl dX5_cellNumbered_49 ?_
        obtain ⟨r19, h⟩ := h
        refine q_get (v := .ref (rh a0 1)) C fX5_44 hk0 (if_neg (Int.not_lt.mpr r19)) dX5_cellNumbered_50 (fun g20 => ?_)
        refine q_iload C 3 rfl dX5_cellNumbered_53 ?_
        obtain ⟨r21, h⟩ := h
        refine q_bald C hk0 rfl (fun _ q => q) r21 dX5_cellNumbered_55 (fun g22 => ?_)
        have h := h g22
        refine q_bipush C (by decide) dX5_cellNumbered_56 ?_
        refine q_icmp_eq (tgt := 65) C g22 (show rng (-2) by decide) (by decide) dX5_cellNumbered_58 (fun b23 => ?_) (fun b23 => ?_)
        · have h := h.1 b23
          refine q_iconst C dX5_cellNumbered_65 ?_
          refine q_lv (lv' := [(0, .ref (gad a0)), (2, .int (gI x2)), (4, .int (gI x4))]) [0, 1, 3] rfl ?_
          exact t66 (wX5_cellNumbered_36 kd ln post a0 a1 n) hk36_ x2 x4 0 x3 M h
        · have h := h.2 b23
          refine q_iconst C dX5_cellNumbered_61 ?_
          refine q_goto (tgt := 66) C (by decide) dX5_cellNumbered_62 ?_
          refine q_lv (lv' := [(0, .ref (gad a0)), (2, .int (gI x2)), (4, .int (gI x4))]) [0, 1, 3] rfl ?_
          exact t66 (wX5_cellNumbered_36 kd ln post a0 a1 n) hk36_ x2 x4 1 x3 M h
  unfold wX5_cellNumbered at h
  refine q_iload_n C 1 rfl rfl dX5_cellNumbered_0 ?_
  obtain ⟨r1, h⟩ := h
  refine q_if_lt (tgt := 12) C r1 (by decide) dX5_cellNumbered_1 (fun b2 => ?_) (fun b2 => ?_)
  · have h := h.1 b2
    refine q_iconst C dX5_cellNumbered_12 ?_
    exact hret (-1) M _ _ dX5_cellNumbered_13 (show rng (-1) by decide) h
  · have h := h.2 b2
    refine q_iload_n C 1 rfl rfl dX5_cellNumbered_4 ?_
    refine q_aload_n C 0 rfl rfl dX5_cellNumbered_5 ?_
    refine q_callVI (As := []) (st := [.int (gI a1)]) C vX5_101 kX5_size ⟨Nat.le_of_ble_eq_true rfl, Nat.le_of_ble_eq_true rfl⟩ ⟨Nat.le_of_ble_eq_true rfl, Nat.le_of_ble_eq_true rfl⟩ rfl hk0 ⟨_, _, rfl⟩ (by decide) rfl (Nat.le_of_ble_eq_true rfl) (mX5_size l D cy kd ln rh _ a0 M hk0 h) dX5_cellNumbered_6 (fun c4 M3 g5 h => ?_)
    have h := h g5
    refine q_icmp_lt (tgt := 14) C r1 g5 (by decide) dX5_cellNumbered_9 (fun b6 => ?_) (fun b6 => ?_)
    · have h := h.1 b6
      refine q_aload_n C 0 rfl rfl dX5_cellNumbered_14 ?_
      refine q_iload_n C 1 rfl rfl dX5_cellNumbered_15 ?_
      refine q_callVI (As := [.int (gI a1)]) (st := []) C vX5_104 kX5_pairWith ⟨Nat.le_of_ble_eq_true rfl, Nat.le_of_ble_eq_true rfl⟩ ⟨Nat.le_of_ble_eq_true rfl, Nat.le_of_ble_eq_true rfl⟩ rfl hk0 ⟨_, _, rfl⟩ (by decide) rfl (Nat.le_of_ble_eq_true rfl) (mX5_pairWith l D cy kd ln rh _ a0 a1 M3 hk0 h) dX5_cellNumbered_16 (fun c8 M7 g9 h => ?_)
      have h := h g9
      refine q_istore_n (lv' := [(2, .int (gI c8)), (0, .ref (gad a0)), (1, .int (gI a1))]) C rfl (by decide) rfl dX5_cellNumbered_19 ?_
      refine q_iload_n C 2 rfl rfl dX5_cellNumbered_20 ?_
      refine q_aload_n C 1 rfl rfl dX5_cellNumbered_21 ?_
      obtain ⟨r10, h⟩ := h
      refine q_get (v := .ref (rh a0 9)) C fX5_54 hk0 (if_neg (Int.not_lt.mpr r10)) dX5_cellNumbered_22 (fun g11 => ?_)
      refine q_iload_n C 0 rfl rfl dX5_cellNumbered_25 ?_
      obtain ⟨r12, h⟩ := h
      refine q_iald C hk0 rfl (fun _ q => q) r12 dX5_cellNumbered_26 (fun g13 => ?_)
      have h := h g13
      refine q_isub C dX5_cellNumbered_27 ?_
      refine q_topi (fun v14 ev14 => ?_)
      have h := h v14 ev14
      refine q_istore_n (lv' := [(3, .int (gI v14)), (2, .int (gI c8)), (0, .ref (gad a0)), (1, .int (gI a1))]) C rfl (by decide) rfl dX5_cellNumbered_28 ?_
      refine q_iload_n C 1 rfl rfl dX5_cellNumbered_29 ?_
      refine q_sipush C (by decide) dX5_cellNumbered_30 ?_
      refine q_imul C dX5_cellNumbered_33 ?_
      refine q_topi (fun v15 ev15 => ?_)
      have h := h v15 ev15
      refine q_istore (lv' := [(4, .int (gI v15)), (3, .int (gI v14)), (2, .int (gI c8)), (0, .ref (gad a0)), (1, .int (gI a1))]) C (by decide) rfl dX5_cellNumbered_34 ?_
      refine q_lv (lv' := [(0, .ref (gad a0)), (2, .int (gI c8)), (3, .int (gI v14)), (4, .int (gI v15))]) [3, 2, 1, 0] rfl ?_
      obtain ⟨j36, h⟩ := h
      exact t36  j36 c8 v14 v15 M7 h
    · have h := h.2 b6
      refine q_iconst C dX5_cellNumbered_12 ?_
      exact hret (-1) M3 _ _ dX5_cellNumbered_13 (show rng (-1) by decide) h
set_option maxHeartbeats 4000000 in
set_option maxRecDepth 100000 in
theorem mX5_howManyAt (l : Launch) (D : va_G) (cy : Nat → ClassId) (kd : gKd) (ln : gLn) (rh : gRh) (post : Int → gM → Prop) (a0 : Int) (a1 : Int) (a2 : Int) (M : gM) (hk0 : kd a0 = 5) (h : wX5_howManyAt kd ln post a0 a1 a2 M) : gMI l D cy yX5_howManyAt cX5_howManyAt 3 .int 0 0 [.ref (gad a0), .int (gI a1), .int (gI a2)] kd ln rh M post := by
  refine gMI_of (own := RX5) (by decide) rfl (Nat.le_of_ble_eq_true rfl) ?_
  intro p e s m args below meth c A H0 Q C hret
  have t10 : ∀ (M : gM), wX5_howManyAt_10 kd ln post a0 a1 a2  M → gW p l e (gRm 0 0) s m args below meth c D cy A H0 Q 3 kd ln rh 0 0 M 10 [] [] := by
    intro   M h
    unfold wX5_howManyAt_10 at h
    refine q_iconst C dX5_howManyAt_10 ?_
    refine q_goto (tgt := 24) C (by decide) dX5_howManyAt_11 ?_
    exact hret 0 M _ _ dX5_howManyAt_24 (show rng 0 by decide) h
  unfold wX5_howManyAt at h
  refine q_iload_n C 2 rfl rfl dX5_howManyAt_0 ?_
  obtain ⟨r1, h⟩ := h
  refine q_if_lt (tgt := 10) C r1 (by decide) dX5_howManyAt_1 (fun b2 => ?_) (fun b2 => ?_)
  · have h := h.1 b2
    refine q_lv (lv' := []) [] rfl ?_
    exact t10  M h
  · have h := h.2 b2
    refine q_iload_n C 2 rfl rfl dX5_howManyAt_4 ?_
    refine q_bipush C (by decide) dX5_howManyAt_5 ?_
    refine q_icmp_le (tgt := 14) C r1 (show rng 126 by decide) (by decide) dX5_howManyAt_7 (fun b3 => ?_) (fun b3 => ?_)
    · have h := h.1 b3
      refine q_aload_n C 0 rfl rfl dX5_howManyAt_14 ?_
      obtain ⟨r4, h⟩ := h
      refine q_get (v := .ref (rh a0 10)) C fX5_24 hk0 (if_neg (Int.not_lt.mpr r4)) dX5_howManyAt_15 (fun g5 => ?_)
      refine q_iconst C dX5_howManyAt_18 ?_
      refine q_iload_n C 2 rfl rfl dX5_howManyAt_19 ?_
      refine q_imul C dX5_howManyAt_20 ?_
      refine q_iload_n C 1 rfl rfl dX5_howManyAt_21 ?_
      refine q_iadd C dX5_howManyAt_22 ?_
      obtain ⟨r6, h⟩ := h
      refine q_iald C hk0 rfl (fun _ q => q) r6 dX5_howManyAt_23 (fun g7 => ?_)
      have h := h g7
      exact hret (M a0 10 ((2 * a2) + a1)) M _ _ dX5_howManyAt_24 g7 h
    · have h := h.2 b3
      refine q_lv (lv' := []) [] rfl ?_
      exact t10  M h
set_option maxHeartbeats 4000000 in
set_option maxRecDepth 100000 in
theorem mX5_numberOf (l : Launch) (D : va_G) (cy : Nat → ClassId) (kd : gKd) (ln : gLn) (rh : gRh) (post : Int → gM → Prop) (a0 : Int) (a1 : Int) (a2 : Int) (a3 : Int) (a4 : Int) (M : gM) (hk0 : kd a0 = 5) (h : wX5_numberOf kd ln post a0 a1 a2 a3 a4 M) : gMI l D cy yX5_numberOf cX5_numberOf 8 .int 2 49 [.ref (gad a0), .int (gI a1), .int (gI a2), .int (gI a3), .int (gI a4)] kd ln rh M post := by
  refine gMI_of (own := RX5) (by decide) rfl (Nat.le_of_ble_eq_true rfl) ?_
  intro p e s m args below meth c A H0 Q C hret
  have t71 : ∀ (k45 : Int → Int → Int → gM → Prop), (∀ (x5 : Int), ∀ (x6 : Int), ∀ (x7 : Int), ∀ (M : gM), k45 x5 x6 x7 M → gW p l e (gRm 2 49) s m args below meth c D cy A H0 Q 8 kd ln rh 0 0 M 45 [(0, .ref (gad a0)), (5, .int (gI x5)), (6, .int (gI x6)), (7, .int (gI x7))] []) → ∀ (x5 : Int) (x7 : Int) (y0 : Int) (y1 : Int) (M : gM), wX5_numberOf_71 kd ln post a0 a1 a2 a3 a4 k45 x5 x7 y0 y1 M → gW p l e (gRm 2 49) s m args below meth c D cy A H0 Q 8 kd ln rh 0 0 M 71 [(0, .ref (gad a0)), (5, .int (gI x5)), (7, .int (gI x7))] [.int (gI y0), .int (gI y1)] := by
    intro k45 hk45_ x5 x7 y0 y1 M h
    unfold wX5_numberOf_71 at h
    refine q_iadd C dX5_numberOf_71 ?_
    refine q_topi (fun v28 ev28 => ?_)
    have h := h v28 ev28
    refine q_istore (lv' := [(6, .int (gI v28)), (0, .ref (gad a0)), (5, .int (gI x5)), (7, .int (gI x7))]) C (by decide) rfl dX5_numberOf_72 ?_
    refine q_iinc (lv' := [(7, .int (gI (x7 + 1))), (6, .int (gI v28)), (0, .ref (gad a0)), (5, .int (gI x5))]) C 3 rfl (by decide) rfl dX5_numberOf_74 ?_
    refine q_goto (tgt := 45) C (by decide) dX5_numberOf_77 ?_
    refine q_lv (lv' := [(0, .ref (gad a0)), (5, .int (gI x5)), (6, .int (gI v28)), (7, .int (gI (x7 + 1)))]) [2, 3, 1, 0] rfl ?_
    exact hk45_ x5 v28 (x7 + 1) M h
  have t45 : ∀ (n : Nat) (x5 : Int) (x6 : Int) (x7 : Int) (M : gM), wX5_numberOf_45 kd ln post a0 a1 a2 a3 a4 n x5 x6 x7 M → gW p l e (gRm 2 49) s m args below meth c D cy A H0 Q 8 kd ln rh 0 0 M 45 [(0, .ref (gad a0)), (5, .int (gI x5)), (6, .int (gI x6)), (7, .int (gI x7))] [] := by
    intro n
    induction n with
    | zero => intro x5 x6 x7 M h; exact absurd h (by simp [wX5_numberOf_45])
    | succ n ih =>
      intro x5 x6 x7 M h
      have hk45_ := ih
      rw [wX5_numberOf_45] at h
      refine q_iload C 3 rfl dX5_numberOf_45 ?_
      refine q_iload C 1 rfl dX5_numberOf_47 ?_
      obtain ⟨r19, h⟩ := h
      obtain ⟨r20, h⟩ := h
      refine q_icmp_ge (tgt := 80) C r19 r20 (by decide) dX5_numberOf_49 (fun b21 => ?_) (fun b21 => ?_)
      · have h := h.1 b21
        refine q_iload C 2 rfl dX5_numberOf_80 ?_
        obtain ⟨r22, h⟩ := h
        exact hret x6 M _ _ dX5_numberOf_82 r22 h
      · have h := h.2 b21
        refine q_iload C 2 rfl dX5_numberOf_52 ?_
        refine q_aload_n C 0 rfl rfl dX5_numberOf_54 ?_
        obtain ⟨r23, h⟩ := h
        refine q_get (v := .ref (rh a0 1)) C fX5_44 hk0 (if_neg (Int.not_lt.mpr r23)) dX5_numberOf_55 (fun g24 => ?_)
        refine q_iload C 3 rfl dX5_numberOf_58 ?_
        obtain ⟨r25, h⟩ := h
        refine q_bald C hk0 rfl (fun _ q => q) r25 dX5_numberOf_60 (fun g26 => ?_)
        have h := h g26
        refine q_bipush C (by decide) dX5_numberOf_61 ?_
        refine q_icmp_eq (tgt := 70) C g26 (show rng (-2) by decide) (by decide) dX5_numberOf_63 (fun b27 => ?_) (fun b27 => ?_)
        · have h := h.1 b27
          refine q_iconst C dX5_numberOf_70 ?_
          refine q_lv (lv' := [(0, .ref (gad a0)), (5, .int (gI x5)), (7, .int (gI x7))]) [0, 1, 3] rfl ?_
          exact t71 (wX5_numberOf_45 kd ln post a0 a1 a2 a3 a4 n) hk45_ x5 x7 0 x6 M h
        · have h := h.2 b27
          refine q_iconst C dX5_numberOf_66 ?_
          refine q_goto (tgt := 71) C (by decide) dX5_numberOf_67 ?_
          refine q_lv (lv' := [(0, .ref (gad a0)), (5, .int (gI x5)), (7, .int (gI x7))]) [0, 1, 3] rfl ?_
          exact t71 (wX5_numberOf_45 kd ln post a0 a1 a2 a3 a4 n) hk45_ x5 x7 1 x6 M h
  unfold wX5_numberOf at h
  refine q_aload_n C 0 rfl rfl dX5_numberOf_0 ?_
  refine q_get (v := gR (M a0 2 (-1))) C fX5_35 hk0 rfl dX5_numberOf_1 (fun g1 => ?_)
  obtain ⟨r2, h⟩ := h
  refine q_nn r2 (by decide) ?_
  refine q_iload_n C 1 rfl rfl dX5_numberOf_4 ?_
  refine q_iload_n C 2 rfl rfl dX5_numberOf_5 ?_
  refine q_iload_n C 3 rfl rfl dX5_numberOf_6 ?_
  refine q_iload C 4 rfl dX5_numberOf_7 ?_
  refine q_callVI (As := [.int (gI a1), .int (gI a2), .int (gI a3), .int (gI a4)]) (st := []) C vX5_76 kX2_cellOf ⟨Nat.le_of_ble_eq_true rfl, Nat.le_of_ble_eq_true rfl⟩ ⟨Nat.le_of_ble_eq_true rfl, Nat.le_of_ble_eq_true rfl⟩ rfl r2 ⟨_, _, rfl⟩ (by decide) rfl (Nat.le_of_ble_eq_true rfl) (mX2_cellOf l D cy kd ln rh _ (M a0 2 (-1)) a1 a2 a3 a4 M r2 h) dX5_numberOf_9 (fun c4 M3 g5 h => ?_)
  have h := h g5
  refine q_istore (lv' := [(5, .int (gI c4)), (0, .ref (gad a0)), (1, .int (gI a1)), (2, .int (gI a2)), (3, .int (gI a3)), (4, .int (gI a4))]) C (by decide) rfl dX5_numberOf_12 ?_
  refine q_iload C 0 rfl dX5_numberOf_14 ?_
  refine q_iconst C dX5_numberOf_16 ?_
  refine q_icmp_ne (tgt := 22) C g5 (show rng (-1) by decide) (by decide) dX5_numberOf_17 (fun b6 => ?_) (fun b6 => ?_)
  · have h := h.1 b6
    refine q_aload_n C 1 rfl rfl dX5_numberOf_22 ?_
    obtain ⟨r7, h⟩ := h
    refine q_get (v := .ref (rh a0 9)) C fX5_54 hk0 (if_neg (Int.not_lt.mpr r7)) dX5_numberOf_23 (fun g8 => ?_)
    refine q_iload C 0 rfl dX5_numberOf_26 ?_
    refine q_callSI (As := [.int (gI c4)]) (st := [.ref (rh a0 9)]) C vX5_98 kX5_pairOf ⟨Nat.le_of_ble_eq_true rfl, Nat.le_of_ble_eq_true rfl⟩ ⟨Nat.le_of_ble_eq_true rfl, Nat.le_of_ble_eq_true rfl⟩ rfl rfl (Nat.le_of_ble_eq_true rfl) (mX5_pairOf l D cy kd ln rh _ c4 M3  h) dX5_numberOf_28 (fun c10 M9 g11 h => ?_)
    have h := h g11
    obtain ⟨r12, h⟩ := h
    refine q_iald C hk0 rfl (fun _ q => q) r12 dX5_numberOf_31 (fun g13 => ?_)
    have h := h g13
    refine q_topi (fun v14 ev14 => ?_)
    have h := h v14 ev14
    have gv14 : rng v14 := by rw [ev14]; exact g13
    refine q_istore (lv' := [(6, .int (gI v14)), (5, .int (gI c4)), (0, .ref (gad a0)), (1, .int (gI a1)), (2, .int (gI a2)), (3, .int (gI a3)), (4, .int (gI a4))]) C (by decide) rfl dX5_numberOf_32 ?_
    refine q_iload C 1 rfl dX5_numberOf_34 ?_
    refine q_callSI (As := [.int (gI c4)]) (st := []) C vX5_98 kX5_pairOf ⟨Nat.le_of_ble_eq_true rfl, Nat.le_of_ble_eq_true rfl⟩ ⟨Nat.le_of_ble_eq_true rfl, Nat.le_of_ble_eq_true rfl⟩ rfl rfl (Nat.le_of_ble_eq_true rfl) (mX5_pairOf l D cy kd ln rh _ c4 M9  h) dX5_numberOf_36 (fun c16 M15 g17 h => ?_)
    have h := h g17
    refine q_sipush C (by decide) dX5_numberOf_39 ?_
    refine q_imul C dX5_numberOf_42 ?_
    refine q_topi (fun v18 ev18 => ?_)
    have h := h v18 ev18
    refine q_istore (lv' := [(7, .int (gI v18)), (6, .int (gI v14)), (5, .int (gI c4)), (0, .ref (gad a0)), (1, .int (gI a1)), (2, .int (gI a2)), (3, .int (gI a3)), (4, .int (gI a4))]) C (by decide) rfl dX5_numberOf_43 ?_
    refine q_lv (lv' := [(0, .ref (gad a0)), (5, .int (gI c4)), (6, .int (gI v14)), (7, .int (gI v18))]) [3, 2, 1, 0] rfl ?_
    obtain ⟨j45, h⟩ := h
    exact t45  j45 c4 v14 v18 M15 h
  · have h := h.2 b6
    refine q_iconst C dX5_numberOf_20 ?_
    exact hret (-1) M3 _ _ dX5_numberOf_21 (show rng (-1) by decide) h
set_option maxHeartbeats 4000000 in
set_option maxRecDepth 100000 in
theorem mX5_tell (l : Launch) (D : va_G) (cy : Nat → ClassId) (kd : gKd) (ln : gLn) (rh : gRh) (post : Int → gM → Prop) (a0 : Int) (a1 : Int) (a2 : Int) (M : gM) (hk0 : kd a0 = 5) (h : wX5_tell kd ln post a0 a1 a2 M) : gMI l D cy yX5_tell cX5_tell 3 .int 1 20 [.ref (gad a0), .int (gI a1), .int (gI a2)] kd ln rh M post := by
  refine gMI_of (own := RX5) (by decide) rfl (Nat.le_of_ble_eq_true rfl) ?_
  intro p e s m args below meth c A H0 Q C hret
  unfold wX5_tell at h
  refine q_iload_n C 2 rfl rfl dX5_tell_0 ?_
  obtain ⟨r1, h⟩ := h
  rcases (show (a2 < 0 ∨ 4 < a2) ∨ a2 = 0 ∨ a2 = 1 ∨ a2 = 2 ∨ a2 = 3 ∨ a2 = 4 by omega) with b2 | b2 | b2 | b2 | b2 | b2
  · have h := h.1 b2
    refine q_tswOut (tgt := 79) C r1 b2 (by decide) dX5_tell_1 ?_
    refine q_iconst C dX5_tell_79 ?_
    exact hret (-1) M _ _ dX5_tell_80 (show rng (-1) by decide) h
  · have h := h.2.1 b2
    refine q_tswIn (tgt := 36) (off := 35) C r1 (by omega) (by omega) (by rw [b2]; rfl) (by decide) dX5_tell_1 ?_
    refine q_aload_n C 0 rfl rfl dX5_tell_36 ?_
    refine q_get (v := gR (M a0 2 (-1))) C fX5_35 hk0 rfl dX5_tell_37 (fun g3 => ?_)
    obtain ⟨r4, h⟩ := h
    refine q_nn r4 (by decide) ?_
    obtain ⟨r5, h⟩ := h
    refine q_get (v := .ref (rh (M a0 2 (-1)) 1)) C fX5_61 r4 (if_neg (Int.not_lt.mpr r5)) dX5_tell_40 (fun g6 => ?_)
    refine q_iload_n C 1 rfl rfl dX5_tell_43 ?_
    refine q_callSI (As := [.int (gI a1)]) (st := [.ref (rh (M a0 2 (-1)) 1)]) C vX5_98 kX5_pairOf ⟨Nat.le_of_ble_eq_true rfl, Nat.le_of_ble_eq_true rfl⟩ ⟨Nat.le_of_ble_eq_true rfl, Nat.le_of_ble_eq_true rfl⟩ rfl rfl (Nat.le_of_ble_eq_true rfl) (mX5_pairOf l D cy kd ln rh _ a1 M  h) dX5_tell_44 (fun c8 M7 g9 h => ?_)
    have h := h g9
    obtain ⟨r10, h⟩ := h
    refine q_iald C r4 rfl (fun _ q => q) r10 dX5_tell_47 (fun g11 => ?_)
    have h := h g11
    exact hret (M7 (M a0 2 (-1)) 1 c8) M7 _ _ dX5_tell_48 g11 h
  · have h := h.2.2.1 b2
    refine q_tswIn (tgt := 49) (off := 48) C r1 (by omega) (by omega) (by rw [b2]; rfl) (by decide) dX5_tell_1 ?_
    refine q_aload_n C 0 rfl rfl dX5_tell_49 ?_
    refine q_get (v := gR (M a0 2 (-1))) C fX5_35 hk0 rfl dX5_tell_50 (fun g12 => ?_)
    obtain ⟨r13, h⟩ := h
    refine q_nn r13 (by decide) ?_
    obtain ⟨r14, h⟩ := h
    refine q_get (v := .ref (rh (M a0 2 (-1)) 2)) C fX5_64 r13 (if_neg (Int.not_lt.mpr r14)) dX5_tell_53 (fun g15 => ?_)
    refine q_iload_n C 1 rfl rfl dX5_tell_56 ?_
    refine q_callSI (As := [.int (gI a1)]) (st := [.ref (rh (M a0 2 (-1)) 2)]) C vX5_98 kX5_pairOf ⟨Nat.le_of_ble_eq_true rfl, Nat.le_of_ble_eq_true rfl⟩ ⟨Nat.le_of_ble_eq_true rfl, Nat.le_of_ble_eq_true rfl⟩ rfl rfl (Nat.le_of_ble_eq_true rfl) (mX5_pairOf l D cy kd ln rh _ a1 M  h) dX5_tell_57 (fun c17 M16 g18 h => ?_)
    have h := h g18
    obtain ⟨r19, h⟩ := h
    refine q_iald C r13 rfl (fun _ q => q) r19 dX5_tell_60 (fun g20 => ?_)
    have h := h g20
    exact hret (M16 (M a0 2 (-1)) 2 c17) M16 _ _ dX5_tell_61 g20 h
  · have h := h.2.2.2.1 b2
    refine q_tswIn (tgt := 62) (off := 61) C r1 (by omega) (by omega) (by rw [b2]; rfl) (by decide) dX5_tell_1 ?_
    refine q_iload_n C 1 rfl rfl dX5_tell_62 ?_
    refine q_callSI (As := [.int (gI a1)]) (st := []) C vX5_107 kX5_manOf ⟨Nat.le_of_ble_eq_true rfl, Nat.le_of_ble_eq_true rfl⟩ ⟨Nat.le_of_ble_eq_true rfl, Nat.le_of_ble_eq_true rfl⟩ rfl rfl (Nat.le_of_ble_eq_true rfl) (mX5_manOf l D cy kd ln rh _ a1 M  h) dX5_tell_63 (fun c22 M21 g23 h => ?_)
    have h := h g23
    exact hret c22 M21 _ _ dX5_tell_66 g23 h
  · have h := h.2.2.2.2.1 b2
    refine q_tswIn (tgt := 67) (off := 66) C r1 (by omega) (by omega) (by rw [b2]; rfl) (by decide) dX5_tell_1 ?_
    refine q_iload_n C 1 rfl rfl dX5_tell_67 ?_
    refine q_callSI (As := [.int (gI a1)]) (st := []) C vX5_92 kX5_turnOf ⟨Nat.le_of_ble_eq_true rfl, Nat.le_of_ble_eq_true rfl⟩ ⟨Nat.le_of_ble_eq_true rfl, Nat.le_of_ble_eq_true rfl⟩ rfl rfl (Nat.le_of_ble_eq_true rfl) (mX5_turnOf l D cy kd ln rh _ a1 M  h) dX5_tell_68 (fun c25 M24 g26 h => ?_)
    have h := h g26
    exact hret c25 M24 _ _ dX5_tell_71 g26 h
  · have h := h.2.2.2.2.2 b2
    refine q_tswIn (tgt := 72) (off := 71) C r1 (by omega) (by omega) (by rw [b2]; rfl) (by decide) dX5_tell_1 ?_
    refine q_aload_n C 0 rfl rfl dX5_tell_72 ?_
    obtain ⟨r27, h⟩ := h
    refine q_get (v := .ref (rh a0 1)) C fX5_44 hk0 (if_neg (Int.not_lt.mpr r27)) dX5_tell_73 (fun g28 => ?_)
    refine q_iload_n C 1 rfl rfl dX5_tell_76 ?_
    obtain ⟨r29, h⟩ := h
    refine q_bald C hk0 rfl (fun _ q => q) r29 dX5_tell_77 (fun g30 => ?_)
    have h := h g30
    exact hret (M a0 1 a1) M _ _ dX5_tell_78 g30 h
set_option maxHeartbeats 4000000 in
set_option maxRecDepth 100000 in
theorem mX6_addToLine (l : Launch) (D : va_G) (cy : Nat → ClassId) (kd : gKd) (ln : gLn) (rh : gRh) (post : gM → Prop) (a0 : Int) (a1 : Int) (M : gM) (hk0 : kd a0 = 6) (hk1 : kd a1 = 4) (h : wX6_addToLine kd ln post a0 a1 M) : gMV l D cy yX6_addToLine cX6_addToLine 3 0 0 [.ref (gad a0), .ref (gad a1)] kd ln rh M post := by
  refine gMV_of (own := RX6) (by decide) rfl (Nat.le_of_ble_eq_true rfl) ?_
  intro p e s m args below meth c A H0 Q C hret
  unfold wX6_addToLine at h
  refine q_aload_n C 0 rfl rfl dX6_addToLine_0 ?_
  refine q_get (v := .int (gI (M a0 8 (-1)))) C fX6_56 hk0 rfl dX6_addToLine_1 (fun g1 => ?_)
  have h := h g1
  refine q_iconst C dX6_addToLine_4 ?_
  refine q_imul C dX6_addToLine_5 ?_
  refine q_topi (fun v2 ev2 => ?_)
  have h := h v2 ev2
  refine q_istore_n (lv' := [(2, .int (gI v2)), (0, .ref (gad a0)), (1, .ref (gad a1))]) C rfl (by decide) rfl dX6_addToLine_6 ?_
  refine q_iload_n C 0 rfl rfl dX6_addToLine_7 ?_
  refine q_iconst C dX6_addToLine_8 ?_
  refine q_iadd C dX6_addToLine_9 ?_
  refine q_aload_n C 1 rfl rfl dX6_addToLine_10 ?_
  obtain ⟨r3, h⟩ := h
  refine q_get (v := .ref (rh a0 7)) C fX6_39 hk0 (if_neg (Int.not_lt.mpr r3)) dX6_addToLine_11 (fun g4 => ?_)
  refine q_alen (t0 := 0) C hk0 rfl r3 dX6_addToLine_14 (fun g5 => ?_)
  have h := h g5
  have g6 : rng (ln a0 7) := ⟨by omega, by omega⟩
  obtain ⟨r7, h⟩ := h
  refine q_icmp_le (tgt := 19) C r7 g6 (by decide) dX6_addToLine_15 (fun b8 => ?_) (fun b8 => ?_)
  · have h := h.1 b8
    refine q_aload_n C 1 rfl rfl dX6_addToLine_19 ?_
    refine q_get (v := .ref (rh a0 7)) C fX6_39 hk0 (if_neg (Int.not_lt.mpr r3)) dX6_addToLine_20 (fun g9 => ?_)
    refine q_iload_n C 0 rfl rfl dX6_addToLine_23 ?_
    refine q_aload_n C 2 rfl rfl dX6_addToLine_24 ?_
    refine q_get (v := .int (gI (M a1 0 (-1)))) C fX6_223 hk1 rfl dX6_addToLine_25 (fun g10 => ?_)
    have h := h g10
    obtain ⟨r11, h⟩ := h
    refine q_iast C hk0 rfl g10 r11 dX6_addToLine_28 ?_
    refine q_aload_n C 1 rfl rfl dX6_addToLine_29 ?_
    refine q_get (v := .ref (rh a0 7)) C fX6_39 hk0 (if_neg (Int.not_lt.mpr r3)) dX6_addToLine_30 (fun g12 => ?_)
    refine q_iload_n C 0 rfl rfl dX6_addToLine_33 ?_
    refine q_iconst C dX6_addToLine_34 ?_
    refine q_iadd C dX6_addToLine_35 ?_
    refine q_aload_n C 2 rfl rfl dX6_addToLine_36 ?_
    refine q_get (v := .int (gI ((gu M a0 7 v2 (M a1 0 (-1))) a1 1 (-1)))) C fX6_211 hk1 rfl dX6_addToLine_37 (fun g13 => ?_)
    have h := h g13
    obtain ⟨r14, h⟩ := h
    refine q_iast C hk0 rfl g13 r14 dX6_addToLine_40 ?_
    refine q_aload_n C 1 rfl rfl dX6_addToLine_41 ?_
    refine q_get (v := .ref (rh a0 7)) C fX6_39 hk0 (if_neg (Int.not_lt.mpr r3)) dX6_addToLine_42 (fun g15 => ?_)
    refine q_iload_n C 0 rfl rfl dX6_addToLine_45 ?_
    refine q_iconst C dX6_addToLine_46 ?_
    refine q_iadd C dX6_addToLine_47 ?_
    refine q_aload_n C 2 rfl rfl dX6_addToLine_48 ?_
    refine q_get (v := .int (gI ((gu (gu M a0 7 v2 (M a1 0 (-1))) a0 7 (v2 + 1) ((gu M a0 7 v2 (M a1 0 (-1))) a1 1 (-1))) a1 2 (-1)))) C fX6_226 hk1 rfl dX6_addToLine_49 (fun g16 => ?_)
    have h := h g16
    obtain ⟨r17, h⟩ := h
    refine q_iast C hk0 rfl g16 r17 dX6_addToLine_52 ?_
    refine q_aload_n C 1 rfl rfl dX6_addToLine_53 ?_
    refine q_get (v := .ref (rh a0 7)) C fX6_39 hk0 (if_neg (Int.not_lt.mpr r3)) dX6_addToLine_54 (fun g18 => ?_)
    refine q_iload_n C 0 rfl rfl dX6_addToLine_57 ?_
    refine q_iconst C dX6_addToLine_58 ?_
    refine q_iadd C dX6_addToLine_59 ?_
    refine q_aload_n C 2 rfl rfl dX6_addToLine_60 ?_
    refine q_get (v := .int (gI ((gu (gu (gu M a0 7 v2 (M a1 0 (-1))) a0 7 (v2 + 1) ((gu M a0 7 v2 (M a1 0 (-1))) a1 1 (-1))) a0 7 (v2 + 2) ((gu (gu M a0 7 v2 (M a1 0 (-1))) a0 7 (v2 + 1) ((gu M a0 7 v2 (M a1 0 (-1))) a1 1 (-1))) a1 2 (-1))) a1 3 (-1)))) C fX6_214 hk1 rfl dX6_addToLine_61 (fun g19 => ?_)
    have h := h g19
    obtain ⟨r20, h⟩ := h
    refine q_iast C hk0 rfl g19 r20 dX6_addToLine_64 ?_
    refine q_aload_n C 1 rfl rfl dX6_addToLine_65 ?_
    refine q_get (v := .ref (rh a0 7)) C fX6_39 hk0 (if_neg (Int.not_lt.mpr r3)) dX6_addToLine_66 (fun g21 => ?_)
    refine q_iload_n C 0 rfl rfl dX6_addToLine_69 ?_
    refine q_iconst C dX6_addToLine_70 ?_
    refine q_iadd C dX6_addToLine_71 ?_
    refine q_aload_n C 2 rfl rfl dX6_addToLine_72 ?_
    refine q_get (v := .int (gI ((gu (gu (gu (gu M a0 7 v2 (M a1 0 (-1))) a0 7 (v2 + 1) ((gu M a0 7 v2 (M a1 0 (-1))) a1 1 (-1))) a0 7 (v2 + 2) ((gu (gu M a0 7 v2 (M a1 0 (-1))) a0 7 (v2 + 1) ((gu M a0 7 v2 (M a1 0 (-1))) a1 1 (-1))) a1 2 (-1))) a0 7 (v2 + 3) ((gu (gu (gu M a0 7 v2 (M a1 0 (-1))) a0 7 (v2 + 1) ((gu M a0 7 v2 (M a1 0 (-1))) a1 1 (-1))) a0 7 (v2 + 2) ((gu (gu M a0 7 v2 (M a1 0 (-1))) a0 7 (v2 + 1) ((gu M a0 7 v2 (M a1 0 (-1))) a1 1 (-1))) a1 2 (-1))) a1 3 (-1))) a1 4 (-1)))) C fX6_205 hk1 rfl dX6_addToLine_73 (fun g22 => ?_)
    have h := h g22
    obtain ⟨r23, h⟩ := h
    refine q_iast C hk0 rfl g22 r23 dX6_addToLine_76 ?_
    refine q_aload_n C 1 rfl rfl dX6_addToLine_77 ?_
    refine q_dup C rfl dX6_addToLine_78 ?_
    refine q_get (v := .int (gI ((gu (gu (gu (gu (gu M a0 7 v2 (M a1 0 (-1))) a0 7 (v2 + 1) ((gu M a0 7 v2 (M a1 0 (-1))) a1 1 (-1))) a0 7 (v2 + 2) ((gu (gu M a0 7 v2 (M a1 0 (-1))) a0 7 (v2 + 1) ((gu M a0 7 v2 (M a1 0 (-1))) a1 1 (-1))) a1 2 (-1))) a0 7 (v2 + 3) ((gu (gu (gu M a0 7 v2 (M a1 0 (-1))) a0 7 (v2 + 1) ((gu M a0 7 v2 (M a1 0 (-1))) a1 1 (-1))) a0 7 (v2 + 2) ((gu (gu M a0 7 v2 (M a1 0 (-1))) a0 7 (v2 + 1) ((gu M a0 7 v2 (M a1 0 (-1))) a1 1 (-1))) a1 2 (-1))) a1 3 (-1))) a0 7 (v2 + 4) ((gu (gu (gu (gu M a0 7 v2 (M a1 0 (-1))) a0 7 (v2 + 1) ((gu M a0 7 v2 (M a1 0 (-1))) a1 1 (-1))) a0 7 (v2 + 2) ((gu (gu M a0 7 v2 (M a1 0 (-1))) a0 7 (v2 + 1) ((gu M a0 7 v2 (M a1 0 (-1))) a1 1 (-1))) a1 2 (-1))) a0 7 (v2 + 3) ((gu (gu (gu M a0 7 v2 (M a1 0 (-1))) a0 7 (v2 + 1) ((gu M a0 7 v2 (M a1 0 (-1))) a1 1 (-1))) a0 7 (v2 + 2) ((gu (gu M a0 7 v2 (M a1 0 (-1))) a0 7 (v2 + 1) ((gu M a0 7 v2 (M a1 0 (-1))) a1 1 (-1))) a1 2 (-1))) a1 3 (-1))) a1 4 (-1))) a0 8 (-1)))) C fX6_56 hk0 rfl dX6_addToLine_79 (fun g24 => ?_)
    have h := h g24
    refine q_iconst C dX6_addToLine_82 ?_
    refine q_iadd C dX6_addToLine_83 ?_
    obtain ⟨r25, h⟩ := h
    refine q_put (x := (((gu (gu (gu (gu (gu M a0 7 v2 (M a1 0 (-1))) a0 7 (v2 + 1) ((gu M a0 7 v2 (M a1 0 (-1))) a1 1 (-1))) a0 7 (v2 + 2) ((gu (gu M a0 7 v2 (M a1 0 (-1))) a0 7 (v2 + 1) ((gu M a0 7 v2 (M a1 0 (-1))) a1 1 (-1))) a1 2 (-1))) a0 7 (v2 + 3) ((gu (gu (gu M a0 7 v2 (M a1 0 (-1))) a0 7 (v2 + 1) ((gu M a0 7 v2 (M a1 0 (-1))) a1 1 (-1))) a0 7 (v2 + 2) ((gu (gu M a0 7 v2 (M a1 0 (-1))) a0 7 (v2 + 1) ((gu M a0 7 v2 (M a1 0 (-1))) a1 1 (-1))) a1 2 (-1))) a1 3 (-1))) a0 7 (v2 + 4) ((gu (gu (gu (gu M a0 7 v2 (M a1 0 (-1))) a0 7 (v2 + 1) ((gu M a0 7 v2 (M a1 0 (-1))) a1 1 (-1))) a0 7 (v2 + 2) ((gu (gu M a0 7 v2 (M a1 0 (-1))) a0 7 (v2 + 1) ((gu M a0 7 v2 (M a1 0 (-1))) a1 1 (-1))) a1 2 (-1))) a0 7 (v2 + 3) ((gu (gu (gu M a0 7 v2 (M a1 0 (-1))) a0 7 (v2 + 1) ((gu M a0 7 v2 (M a1 0 (-1))) a1 1 (-1))) a0 7 (v2 + 2) ((gu (gu M a0 7 v2 (M a1 0 (-1))) a0 7 (v2 + 1) ((gu M a0 7 v2 (M a1 0 (-1))) a1 1 (-1))) a1 2 (-1))) a1 3 (-1))) a1 4 (-1))) a0 8 (-1)) + 1)) (ty := .int) C fX6_56 hk0 (fun _ _ _ q => by cases q; rfl) (congrArg (fun z => Value.int (gI z)) gu_s) rfl rfl r25 (fun j q => absurd (show (0 : Nat) = j + 3 from q) (by omega)) dX6_addToLine_84 ?_
    exact hret (gu (gu (gu (gu (gu (gu M a0 7 v2 (M a1 0 (-1))) a0 7 (v2 + 1) ((gu M a0 7 v2 (M a1 0 (-1))) a1 1 (-1))) a0 7 (v2 + 2) ((gu (gu M a0 7 v2 (M a1 0 (-1))) a0 7 (v2 + 1) ((gu M a0 7 v2 (M a1 0 (-1))) a1 1 (-1))) a1 2 (-1))) a0 7 (v2 + 3) ((gu (gu (gu M a0 7 v2 (M a1 0 (-1))) a0 7 (v2 + 1) ((gu M a0 7 v2 (M a1 0 (-1))) a1 1 (-1))) a0 7 (v2 + 2) ((gu (gu M a0 7 v2 (M a1 0 (-1))) a0 7 (v2 + 1) ((gu M a0 7 v2 (M a1 0 (-1))) a1 1 (-1))) a1 2 (-1))) a1 3 (-1))) a0 7 (v2 + 4) ((gu (gu (gu (gu M a0 7 v2 (M a1 0 (-1))) a0 7 (v2 + 1) ((gu M a0 7 v2 (M a1 0 (-1))) a1 1 (-1))) a0 7 (v2 + 2) ((gu (gu M a0 7 v2 (M a1 0 (-1))) a0 7 (v2 + 1) ((gu M a0 7 v2 (M a1 0 (-1))) a1 1 (-1))) a1 2 (-1))) a0 7 (v2 + 3) ((gu (gu (gu M a0 7 v2 (M a1 0 (-1))) a0 7 (v2 + 1) ((gu M a0 7 v2 (M a1 0 (-1))) a1 1 (-1))) a0 7 (v2 + 2) ((gu (gu M a0 7 v2 (M a1 0 (-1))) a0 7 (v2 + 1) ((gu M a0 7 v2 (M a1 0 (-1))) a1 1 (-1))) a1 2 (-1))) a1 3 (-1))) a1 4 (-1))) a0 8 (-1) (((gu (gu (gu (gu (gu M a0 7 v2 (M a1 0 (-1))) a0 7 (v2 + 1) ((gu M a0 7 v2 (M a1 0 (-1))) a1 1 (-1))) a0 7 (v2 + 2) ((gu (gu M a0 7 v2 (M a1 0 (-1))) a0 7 (v2 + 1) ((gu M a0 7 v2 (M a1 0 (-1))) a1 1 (-1))) a1 2 (-1))) a0 7 (v2 + 3) ((gu (gu (gu M a0 7 v2 (M a1 0 (-1))) a0 7 (v2 + 1) ((gu M a0 7 v2 (M a1 0 (-1))) a1 1 (-1))) a0 7 (v2 + 2) ((gu (gu M a0 7 v2 (M a1 0 (-1))) a0 7 (v2 + 1) ((gu M a0 7 v2 (M a1 0 (-1))) a1 1 (-1))) a1 2 (-1))) a1 3 (-1))) a0 7 (v2 + 4) ((gu (gu (gu (gu M a0 7 v2 (M a1 0 (-1))) a0 7 (v2 + 1) ((gu M a0 7 v2 (M a1 0 (-1))) a1 1 (-1))) a0 7 (v2 + 2) ((gu (gu M a0 7 v2 (M a1 0 (-1))) a0 7 (v2 + 1) ((gu M a0 7 v2 (M a1 0 (-1))) a1 1 (-1))) a1 2 (-1))) a0 7 (v2 + 3) ((gu (gu (gu M a0 7 v2 (M a1 0 (-1))) a0 7 (v2 + 1) ((gu M a0 7 v2 (M a1 0 (-1))) a1 1 (-1))) a0 7 (v2 + 2) ((gu (gu M a0 7 v2 (M a1 0 (-1))) a0 7 (v2 + 1) ((gu M a0 7 v2 (M a1 0 (-1))) a1 1 (-1))) a1 2 (-1))) a1 3 (-1))) a1 4 (-1))) a0 8 (-1)) + 1)) _ _ dX6_addToLine_87 h
  · have h := h.2 b8
    exact hret M _ _ dX6_addToLine_18 h
set_option maxHeartbeats 4000000 in
set_option maxRecDepth 100000 in
theorem mX6_addToTape (l : Launch) (D : va_G) (cy : Nat → ClassId) (kd : gKd) (ln : gLn) (rh : gRh) (post : gM → Prop) (a0 : Int) (a1 : Int) (M : gM) (hk0 : kd a0 = 6) (h : wX6_addToTape kd ln post a0 a1 M) : gMV l D cy yX6_addToTape cX6_addToTape 3 0 0 [.ref (gad a0), .int (gI a1)] kd ln rh M post := by
  refine gMV_of (own := RX6) (by decide) rfl (Nat.le_of_ble_eq_true rfl) ?_
  intro p e s m args below meth c A H0 Q C hret
  have t3 : ∀ (n : Nat) (x2 : Int) (M : gM), wX6_addToTape_3 kd ln post a0 a1 n x2 M → gW p l e (gRm 0 0) s m args below meth c D cy A H0 Q 3 kd ln rh 0 0 M 3 [(0, .ref (gad a0)), (1, .int (gI a1)), (2, .int (gI x2))] [] := by
    intro n
    induction n with
    | zero => intro x2 M h; exact absurd h (by simp [wX6_addToTape_3])
    | succ n ih =>
      intro x2 M h
      have hk3_ := ih
      rw [wX6_addToTape_3] at h
      refine q_iload_n C 2 rfl rfl dX6_addToTape_3 ?_
      obtain ⟨r1, h⟩ := h
      refine q_if_lt (tgt := 39) C r1 (by decide) dX6_addToTape_4 (fun b2 => ?_) (fun b2 => ?_)
      · have h := h.1 b2
        exact hret M _ _ dX6_addToTape_39 h
      · have h := h.2 b2
        refine q_aload_n C 0 rfl rfl dX6_addToTape_7 ?_
        obtain ⟨r3, h⟩ := h
        refine q_get (v := .ref (rh a0 9)) C fX6_43 hk0 (if_neg (Int.not_lt.mpr r3)) dX6_addToTape_8 (fun g4 => ?_)
        refine q_aload_n C 0 rfl rfl dX6_addToTape_11 ?_
        refine q_get (v := .int (gI (M a0 10 (-1)))) C fX6_167 hk0 rfl dX6_addToTape_12 (fun g5 => ?_)
        have h := h g5
        refine q_iload_n C 1 rfl rfl dX6_addToTape_15 ?_
        refine q_iload_n C 2 rfl rfl dX6_addToTape_16 ?_
        refine q_iushr C dX6_addToTape_17 ?_
        refine q_sipush C (by decide) dX6_addToTape_18 ?_
        refine q_iand C dX6_addToTape_21 ?_
        obtain ⟨r6, h⟩ := h
        obtain ⟨r7, h⟩ := h
        refine q_iast C hk0 rfl r7 r6 dX6_addToTape_22 ?_
        refine q_aload_n C 0 rfl rfl dX6_addToTape_23 ?_
        refine q_dup C rfl dX6_addToTape_24 ?_
        refine q_get (v := .int (gI ((gu M a0 9 (M a0 10 (-1)) (giand (giushr a1 x2) 255)) a0 10 (-1)))) C fX6_167 hk0 rfl dX6_addToTape_25 (fun g8 => ?_)
        have h := h g8
        refine q_iconst C dX6_addToTape_28 ?_
        refine q_iadd C dX6_addToTape_29 ?_
        obtain ⟨r9, h⟩ := h
        refine q_put (x := (((gu M a0 9 (M a0 10 (-1)) (giand (giushr a1 x2) 255)) a0 10 (-1)) + 1)) (ty := .int) C fX6_167 hk0 (fun _ _ _ q => by cases q; rfl) (congrArg (fun z => Value.int (gI z)) gu_s) rfl rfl r9 (fun j q => absurd (show (0 : Nat) = j + 3 from q) (by omega)) dX6_addToTape_30 ?_
        refine q_iinc (lv' := [(2, .int (gI (x2 + (-8)))), (0, .ref (gad a0)), (1, .int (gI a1))]) C 2 rfl (by decide) rfl dX6_addToTape_33 ?_
        refine q_goto (tgt := 3) C (by decide) dX6_addToTape_36 ?_
        refine q_lv (lv' := [(0, .ref (gad a0)), (1, .int (gI a1)), (2, .int (gI (x2 + (-8))))]) [1, 2, 0] rfl ?_
        exact hk3_ (x2 + (-8)) (gu (gu M a0 9 (M a0 10 (-1)) (giand (giushr a1 x2) 255)) a0 10 (-1) (((gu M a0 9 (M a0 10 (-1)) (giand (giushr a1 x2) 255)) a0 10 (-1)) + 1)) h
  unfold wX6_addToTape at h
  refine q_bipush C (by decide) dX6_addToTape_0 ?_
  refine q_istore_n (lv' := [(2, .int (gI 24)), (0, .ref (gad a0)), (1, .int (gI a1))]) C rfl (by decide) rfl dX6_addToTape_2 ?_
  refine q_lv (lv' := [(0, .ref (gad a0)), (1, .int (gI a1)), (2, .int (gI 24))]) [1, 2, 0] rfl ?_
  obtain ⟨j3, h⟩ := h
  exact t3  j3 24 M h
set_option maxHeartbeats 4000000 in
set_option maxRecDepth 100000 in
theorem mX6_demandMade (l : Launch) (D : va_G) (cy : Nat → ClassId) (kd : gKd) (ln : gLn) (rh : gRh) (post : Int → gM → Prop) (px : gM → Prop) (a0 : Int) (a1 : Int) (M : gM) (hst : l.stackTraces = false) (hk0 : kd a0 = 6) (h : wX6_demandMade kd ln post px a0 a1 M) : gTR l D cy yX6_demandMade cX6_demandMade 3 RX5 6 96 [.ref (gad a0), .int (gI a1)] kd ln rh M post px := by
  refine gTR_of (own := RX6) (by decide) rfl (Nat.le_of_ble_eq_true rfl) hst rfl ?_
  intro p e s m args below meth c A H0 Q C hret hthr hexc
  have t31 : ∀ (y0 : Int) (M : gM), wX6_demandMade_31 kd ln post px a0 a1 y0 M → gW p l e (gRt 6 96) s m args below meth c D cy A H0 Q 3 kd ln rh 0 0 M 31 [] [gR y0] := by
    intro  y0 M h
    unfold wX6_demandMade_31 at h
    refine q_astoreR_n (lv' := [(2, gR y0)]) C rfl (by decide) rfl dX6_demandMade_31 ?_
    refine q_aloadR_n C 0 rfl rfl dX6_demandMade_32 ?_
    refine q_ifnonnull (tgt := 46) C (by decide) dX6_demandMade_33 (fun b14 => ?_) (fun b14 => ?_)
    · have h := h.1 b14
      refine q_aloadR_n C 0 rfl rfl dX6_demandMade_46 ?_
      obtain ⟨r15, h⟩ := h
      refine q_nn r15 (by decide) ?_
      exact hret y0 M _ _ 0 0 (by decide) (by decide) dX6_demandMade_47 h
    · have h := h.2 b14
      exact hthr (196, "no such table", 23) M _ _ _ (by decide) dX6_demandMade_36 dX6_demandMade_39 dX6_demandMade_40 dX6_demandMade_42 dX6_demandMade_45 (by decide) (Nat.le_of_ble_eq_true rfl) h
  have t18 : ∀ (M : gM), wX6_demandMade_18 kd ln post px a0 a1  M → gW p l e (gRt 6 96) s m args below meth c D cy A H0 Q 3 kd ln rh 0 0 M 18 [] [] := by
    intro   M h
    unfold wX6_demandMade_18 at h
    refine q_null C dX6_demandMade_18 ?_
    refine q_goto (tgt := 31) C (by decide) dX6_demandMade_19 ?_
    exact t31  0 M h
  unfold wX6_demandMade at h
  refine q_iload_n C 1 rfl rfl dX6_demandMade_0 ?_
  obtain ⟨r1, h⟩ := h
  refine q_if_lt (tgt := 18) C r1 (by decide) dX6_demandMade_1 (fun b2 => ?_) (fun b2 => ?_)
  · have h := h.1 b2
    refine q_lv (lv' := []) [] rfl ?_
    exact t18  M h
  · have h := h.2 b2
    refine q_iload_n C 1 rfl rfl dX6_demandMade_4 ?_
    refine q_iconst C dX6_demandMade_5 ?_
    refine q_icmp_gt (tgt := 18) C r1 (show rng 2 by decide) (by decide) dX6_demandMade_6 (fun b3 => ?_) (fun b3 => ?_)
    · have h := h.1 b3
      refine q_lv (lv' := []) [] rfl ?_
      exact t18  M h
    · have h := h.2 b3
      refine q_aload_n C 0 rfl rfl dX6_demandMade_9 ?_
      obtain ⟨r4, h⟩ := h
      refine q_get (v := .ref (rh a0 2)) C fX6_15 hk0 (if_neg (Int.not_lt.mpr r4)) dX6_demandMade_10 (fun g5 => ?_)
      refine q_iload_n C 1 rfl rfl dX6_demandMade_13 ?_
      obtain ⟨r6, h⟩ := h
      refine q_zald C hk0 rfl (fun _ q => q) r6 dX6_demandMade_14 (fun g7 => ?_)
      have h := h g7
      refine q_if_ne (tgt := 22) C g7 (by decide) dX6_demandMade_15 (fun b8 => ?_) (fun b8 => ?_)
      · have h := h.1 b8
        refine q_aload_n C 0 rfl rfl dX6_demandMade_22 ?_
        refine q_get (v := gR (M a0 1 (-1))) C fX6_52 hk0 rfl dX6_demandMade_23 (fun g9 => ?_)
        obtain ⟨r10, h⟩ := h
        refine q_nn r10 (by decide) ?_
        obtain ⟨r11, h⟩ := h
        refine q_get (v := .ref (rh (M a0 1 (-1)) 5)) C fX6_190 r10 (if_neg (Int.not_lt.mpr r11)) dX6_demandMade_26 (fun g12 => ?_)
        refine q_iload_n C 1 rfl rfl dX6_demandMade_29 ?_
        obtain ⟨r13, h⟩ := h
        refine q_aald (t0 := 5) C r10 rfl (fun _ _ => rfl) rfl r13 dX6_demandMade_30 ?_
        refine q_lv (lv' := []) [] rfl ?_
        exact t31  (M (M a0 1 (-1)) 5 a1) M h
      · have h := h.2 b8
        refine q_lv (lv' := []) [] rfl ?_
        exact t18  M h
set_option maxHeartbeats 4000000 in
set_option maxRecDepth 100000 in
theorem mX6_demandTable (l : Launch) (D : va_G) (cy : Nat → ClassId) (kd : gKd) (ln : gLn) (rh : gRh) (post : Int → gM → Prop) (px : gM → Prop) (a0 : Int) (a1 : Int) (a2 : Int) (a3 : Int) (a4 : Int) (a5 : Int) (M : gM) (hst : l.stackTraces = false) (hk0 : kd a0 = 6) (h : wX6_demandTable kd ln post px a0 a1 a2 a3 a4 a5 M) : gTR l D cy yX6_demandTable cX6_demandTable 6 RX5 7 118 [.ref (gad a0), .int (gI a1), .int (gI a2), .int (gI a3), .int (gI a4), .int (gI a5)] kd ln rh M post px := by
  refine gTR_of (own := RX6) (by decide) rfl (Nat.le_of_ble_eq_true rfl) hst rfl ?_
  intro p e s m args below meth c A H0 Q C hret hthr hexc
  unfold wX6_demandTable at h
  refine q_aload_n C 0 rfl rfl dX6_demandTable_0 ?_
  refine q_get (v := gR (M a0 1 (-1))) C fX6_52 hk0 rfl dX6_demandTable_1 (fun g1 => ?_)
  obtain ⟨r2, h⟩ := h
  refine q_nn r2 (by decide) ?_
  refine q_iload_n C 1 rfl rfl dX6_demandTable_4 ?_
  refine q_iload_n C 2 rfl rfl dX6_demandTable_5 ?_
  refine q_iload_n C 3 rfl rfl dX6_demandTable_6 ?_
  refine q_iload C 4 rfl dX6_demandTable_7 ?_
  refine q_iload C 5 rfl dX6_demandTable_9 ?_
  refine q_callVI (As := [.int (gI a1), .int (gI a2), .int (gI a3), .int (gI a4), .int (gI a5)]) (st := []) C vX6_70 kX0_allows ⟨Nat.le_of_ble_eq_true rfl, Nat.le_of_ble_eq_true rfl⟩ ⟨Nat.le_of_ble_eq_true rfl, Nat.le_of_ble_eq_true rfl⟩ rfl r2 ⟨_, _, rfl⟩ (by decide) rfl (Nat.le_of_ble_eq_true rfl) (mX0_allows l D cy kd ln rh _ (M a0 1 (-1)) a1 a2 a3 a4 a5 M r2 h) dX6_demandTable_11 (fun c4 M3 g5 h => ?_)
  have h := h g5
  refine q_if_ne (tgt := 27) C g5 (by decide) dX6_demandTable_14 (fun b6 => ?_) (fun b6 => ?_)
  · have h := h.1 b6
    refine q_aload_n C 0 rfl rfl dX6_demandTable_27 ?_
    refine q_iload_n C 1 rfl rfl dX6_demandTable_28 ?_
    refine q_callTR (As := [.int (gI a1)]) (st := []) C vX6_138 kX6_demandMade ⟨Nat.le_of_ble_eq_true rfl, Nat.le_of_ble_eq_true rfl⟩ ⟨Nat.le_of_ble_eq_true rfl, Nat.le_of_ble_eq_true rfl⟩ rfl hk0 ⟨_, _, rfl⟩ (by decide) rfl (Nat.le_of_ble_eq_true rfl) (mX6_demandMade l D cy kd ln rh _ _ a0 a1 M3 hst hk0 h) dX6_demandTable_29 (fun M9 h => hexc M9 _ _ _ _ _ (by decide) (by decide) h) (fun c8 M7 h => ?_)
    exact hret c8 M7 _ _ 1 6 (by decide) (by decide) dX6_demandTable_32 h
  · have h := h.2 b6
    exact hthr (203, "no such position", 22) M3 _ _ _ (by decide) dX6_demandTable_17 dX6_demandTable_20 dX6_demandTable_21 dX6_demandTable_23 dX6_demandTable_26 (by decide) (Nat.le_of_ble_eq_true rfl) h
set_option maxHeartbeats 4000000 in
set_option maxRecDepth 100000 in
theorem mX6_lookUp (l : Launch) (D : va_G) (cy : Nat → ClassId) (kd : gKd) (ln : gLn) (rh : gRh) (post : Int → gM → Prop) (a0 : Int) (a1 : Int) (a2 : Int) (a3 : Int) (a4 : Int) (a5 : Int) (M : gM) (hk0 : kd a0 = 6) (h : wX6_lookUp kd ln post a0 a1 a2 a3 a4 a5 M) : gMI l D cy yX6_lookUp cX6_lookUp 7 .int 3 74 [.ref (gad a0), .int (gI a1), .int (gI a2), .int (gI a3), .int (gI a4), .int (gI a5)] kd ln rh M post := by
  refine gMI_of (own := RX6) (by decide) rfl (Nat.le_of_ble_eq_true rfl) ?_
  intro p e s m args below meth c A H0 Q C hret
  unfold wX6_lookUp at h
  refine q_aload_n C 0 rfl rfl dX6_lookUp_0 ?_
  refine q_get (v := gR (M a0 1 (-1))) C fX6_52 hk0 rfl dX6_lookUp_1 (fun g1 => ?_)
  obtain ⟨r2, h⟩ := h
  refine q_nn r2 (by decide) ?_
  obtain ⟨r3, h⟩ := h
  refine q_get (v := .ref (rh (M a0 1 (-1)) 5)) C fX6_190 r2 (if_neg (Int.not_lt.mpr r3)) dX6_lookUp_4 (fun g4 => ?_)
  refine q_iload_n C 1 rfl rfl dX6_lookUp_7 ?_
  obtain ⟨r5, h⟩ := h
  refine q_aald (t0 := 5) C r2 rfl (fun _ _ => rfl) rfl r5 dX6_lookUp_8 ?_
  refine q_astoreR (lv' := [(6, gR (M (M a0 1 (-1)) 5 a1)), (0, .ref (gad a0)), (1, .int (gI a1)), (2, .int (gI a2)), (3, .int (gI a3)), (4, .int (gI a4)), (5, .int (gI a5))]) C (by decide) rfl dX6_lookUp_9 ?_
  refine q_aloadR C 0 rfl dX6_lookUp_11 ?_
  refine q_ifnonnull (tgt := 20) C (by decide) dX6_lookUp_13 (fun b6 => ?_) (fun b6 => ?_)
  · have h := h.1 b6
    refine q_aloadR C 0 rfl dX6_lookUp_20 ?_
    obtain ⟨r7, h⟩ := h
    refine q_nn r7 (by decide) ?_
    refine q_iload_n C 3 rfl rfl dX6_lookUp_22 ?_
    refine q_iload_n C 4 rfl rfl dX6_lookUp_23 ?_
    refine q_iload C 5 rfl dX6_lookUp_24 ?_
    refine q_iload C 6 rfl dX6_lookUp_26 ?_
    refine q_callVI (As := [.int (gI a2), .int (gI a3), .int (gI a4), .int (gI a5)]) (st := []) C vX6_102 kX5_look ⟨Nat.le_of_ble_eq_true rfl, Nat.le_of_ble_eq_true rfl⟩ ⟨Nat.le_of_ble_eq_true rfl, Nat.le_of_ble_eq_true rfl⟩ rfl r7 ⟨_, _, rfl⟩ (by decide) rfl (Nat.le_of_ble_eq_true rfl) (mX5_look l D cy kd ln rh _ (M (M a0 1 (-1)) 5 a1) a2 a3 a4 a5 M r7 h) dX6_lookUp_28 (fun c9 M8 g10 h => ?_)
    have h := h g10
    exact hret c9 M8 _ _ dX6_lookUp_31 g10 h
  · have h := h.2 b6
    refine q_iconst C dX6_lookUp_16 ?_
    refine q_goto (tgt := 31) C (by decide) dX6_lookUp_17 ?_
    exact hret (-1) M _ _ dX6_lookUp_31 (show rng (-1) by decide) h
