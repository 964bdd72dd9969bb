set_option maxHeartbeats 4000000 in
set_option maxRecDepth 100000 in
theorem mJ13_bitCount_95d88 (l : Launch) (D : va_G) (cy : Nat → ClassId) (kd : gKd) (ln : gLn) (rh : gRh) (post : Int → gM → Prop) (a0 : BitVec 64) (M : gM)  (h : wJ13_bitCount_95d88 kd ln post a0 M) : gMI l D cy yJ13_bitCount_95d88 cJ13_bitCount_95d88 2 .int 0 0 [.long (gL a0)] kd ln rh M post := by
  refine gMI_of (own := RJ13) (by decide) rfl (Nat.le_of_ble_eq_true rfl) ?_
  intro p e s m args below meth c A H0 Q C hret
  unfold wJ13_bitCount_95d88 at h
  refine q_lload_n C 0 rfl rfl dJ13_bitCount_95d88_0 ?_
  refine q_lload_n C 0 rfl rfl dJ13_bitCount_95d88_1 ?_
  refine q_iconst C dJ13_bitCount_95d88_2 ?_
  refine q_lushr C dJ13_bitCount_95d88_3 ?_
  refine q_ldc2 (b := 6148914691236517205) C nJ13_314 (by decide) dJ13_bitCount_95d88_4 ?_
  refine q_land C dJ13_bitCount_95d88_7 ?_
  refine q_lsub C dJ13_bitCount_95d88_8 ?_
  refine q_topl (fun v1 ev1 => ?_)
  have h := h v1 ev1
  refine q_lstore_n (lv' := [(0, .long (gL v1))]) C rfl (by decide) rfl dJ13_bitCount_95d88_9 ?_
  refine q_lload_n C 0 rfl rfl dJ13_bitCount_95d88_10 ?_
  refine q_ldc2 (b := 3689348814741910323) C nJ13_316 (by decide) dJ13_bitCount_95d88_11 ?_
  refine q_land C dJ13_bitCount_95d88_14 ?_
  refine q_lload_n C 0 rfl rfl dJ13_bitCount_95d88_15 ?_
  refine q_iconst C dJ13_bitCount_95d88_16 ?_
  refine q_lushr C dJ13_bitCount_95d88_17 ?_
  refine q_ldc2 (b := 3689348814741910323) C nJ13_316 (by decide) dJ13_bitCount_95d88_18 ?_
  refine q_land C dJ13_bitCount_95d88_21 ?_
  refine q_ladd C dJ13_bitCount_95d88_22 ?_
  refine q_topl (fun v2 ev2 => ?_)
  have h := h v2 ev2
  refine q_lstore_n (lv' := [(0, .long (gL v2))]) C rfl (by decide) rfl dJ13_bitCount_95d88_23 ?_
  refine q_lload_n C 0 rfl rfl dJ13_bitCount_95d88_24 ?_
  refine q_lload_n C 0 rfl rfl dJ13_bitCount_95d88_25 ?_
  refine q_iconst C dJ13_bitCount_95d88_26 ?_
  refine q_lushr C dJ13_bitCount_95d88_27 ?_
  refine q_ladd C dJ13_bitCount_95d88_28 ?_
  refine q_ldc2 (b := 1085102592571150095) C nJ13_318 (by decide) dJ13_bitCount_95d88_29 ?_
  refine q_land C dJ13_bitCount_95d88_32 ?_
  refine q_topl (fun v3 ev3 => ?_)
  have h := h v3 ev3
  refine q_lstore_n (lv' := [(0, .long (gL v3))]) C rfl (by decide) rfl dJ13_bitCount_95d88_33 ?_
  refine q_lload_n C 0 rfl rfl dJ13_bitCount_95d88_34 ?_
  refine q_lload_n C 0 rfl rfl dJ13_bitCount_95d88_35 ?_
  refine q_bipush C (by decide) dJ13_bitCount_95d88_36 ?_
  refine q_lushr C dJ13_bitCount_95d88_38 ?_
  refine q_ladd C dJ13_bitCount_95d88_39 ?_
  refine q_topl (fun v4 ev4 => ?_)
  have h := h v4 ev4
  refine q_lstore_n (lv' := [(0, .long (gL v4))]) C rfl (by decide) rfl dJ13_bitCount_95d88_40 ?_
  refine q_lload_n C 0 rfl rfl dJ13_bitCount_95d88_41 ?_
  refine q_lload_n C 0 rfl rfl dJ13_bitCount_95d88_42 ?_
  refine q_bipush C (by decide) dJ13_bitCount_95d88_43 ?_
  refine q_lushr C dJ13_bitCount_95d88_45 ?_
  refine q_ladd C dJ13_bitCount_95d88_46 ?_
  refine q_topl (fun v5 ev5 => ?_)
  have h := h v5 ev5
  refine q_lstore_n (lv' := [(0, .long (gL v5))]) C rfl (by decide) rfl dJ13_bitCount_95d88_47 ?_
  refine q_lload_n C 0 rfl rfl dJ13_bitCount_95d88_48 ?_
  refine q_lload_n C 0 rfl rfl dJ13_bitCount_95d88_49 ?_
  refine q_bipush C (by decide) dJ13_bitCount_95d88_50 ?_
  refine q_lushr C dJ13_bitCount_95d88_52 ?_
  refine q_ladd C dJ13_bitCount_95d88_53 ?_
  refine q_topl (fun v6 ev6 => ?_)
  have h := h v6 ev6
  refine q_lstore_n (lv' := [(0, .long (gL v6))]) C rfl (by decide) rfl dJ13_bitCount_95d88_54 ?_
  refine q_lload_n C 0 rfl rfl dJ13_bitCount_95d88_55 ?_
  refine q_l2i C dJ13_bitCount_95d88_56 ?_
  refine q_bipush C (by decide) dJ13_bitCount_95d88_57 ?_
  refine q_iand C dJ13_bitCount_95d88_59 ?_
  obtain ⟨r7, h⟩ := h
  exact hret (giand (gl2i v6) 127) M _ _ dJ13_bitCount_95d88_60 r7 h
set_option maxHeartbeats 4000000 in
set_option maxRecDepth 100000 in
theorem mJ7_fill_031fb (l : Launch) (D : va_G) (cy : Nat → ClassId) (kd : gKd) (ln : gLn) (rh : gRh) (post : gM → Prop) (a0 : Int) (k0_ : Nat) (a1 : Int) (M : gM) (hp0 : gak (kd a0) k0_ = 9) (hq0 : ∀ x, rng x → gRg (kd a0) k0_ x) (h : wJ7_fill_031fb kd ln post a0 k0_ a1 M) : gMV l D cy yJ7_fill_031fb cJ7_fill_031fb 4 0 0 [.ref (rh a0 k0_), .int (gI a1)] kd ln rh M post := by
  refine gMV_of (own := RJ7) (by decide) rfl (Nat.le_of_ble_eq_true rfl) ?_
  intro p e s m args below meth c A H0 Q C hret
  have t5 : ∀ (n : Nat) (x2 : Int) (x3 : Int) (M : gM), wJ7_fill_031fb_5 kd ln post a0 k0_ a1 n x2 x3 M → gW p l e (gRm 0 0) s m args below meth c D cy A H0 Q 4 kd ln rh 0 0 M 5 [(0, .ref (rh a0 k0_)), (1, .int (gI a1)), (2, .int (gI x2)), (3, .int (gI x3))] [] := by
    intro n
    induction n with
    | zero => intro x2 x3 M h; exact absurd h (by simp [wJ7_fill_031fb_5])
    | succ n ih =>
      intro x2 x3 M h
      have hk5_ := ih
      rw [wJ7_fill_031fb_5] at h
      refine q_iload_n C 2 rfl rfl dJ7_fill_031fb_5 ?_
      refine q_iload_n C 3 rfl rfl dJ7_fill_031fb_6 ?_
      obtain ⟨r5, h⟩ := h
      obtain ⟨r6, h⟩ := h
      refine q_icmp_ge (tgt := 20) C r5 r6 (by decide) dJ7_fill_031fb_7 (fun b7 => ?_) (fun b7 => ?_)
      · have h := h.1 b7
        exact hret M _ _ dJ7_fill_031fb_20 h
      · have h := h.2 b7
        refine q_aload_n C 0 rfl rfl dJ7_fill_031fb_10 ?_
        refine q_iload_n C 2 rfl rfl dJ7_fill_031fb_11 ?_
        refine q_iload_n C 1 rfl rfl dJ7_fill_031fb_12 ?_
        obtain ⟨r8, h⟩ := h
        obtain ⟨r9, h⟩ := h
        refine q_bast C rfl hp0 (hq0 _ (rng8 r9)) r9 r8 dJ7_fill_031fb_13 ?_
        refine q_iinc (lv' := [(2, .int (gI (x2 + 1))), (0, .ref (rh a0 k0_)), (1, .int (gI a1)), (3, .int (gI x3))]) C 2 rfl (by decide) rfl dJ7_fill_031fb_14 ?_
        refine q_goto (tgt := 5) C (by decide) dJ7_fill_031fb_17 ?_
        refine q_lv (lv' := [(0, .ref (rh a0 k0_)), (1, .int (gI a1)), (2, .int (gI (x2 + 1))), (3, .int (gI x3))]) [1, 2, 0, 3] rfl ?_
        exact hk5_ (x2 + 1) x3 (gu M a0 k0_ x2 a1) h
  unfold wJ7_fill_031fb at h
  refine q_iconst C dJ7_fill_031fb_0 ?_
  refine q_istore_n (lv' := [(2, .int (gI 0)), (0, .ref (rh a0 k0_)), (1, .int (gI a1))]) C rfl (by decide) rfl dJ7_fill_031fb_1 ?_
  refine q_aload_n C 1 rfl rfl dJ7_fill_031fb_2 ?_
  obtain ⟨r1, h⟩ := h
  refine q_alen (t0 := 1) C rfl (by rw [hp0]; rfl) r1 dJ7_fill_031fb_3 (fun g2 => ?_)
  have h := h g2
  have g3 : rng (ln a0 k0_) := ⟨by omega, by omega⟩
  refine q_topi (fun v4 ev4 => ?_)
  have h := h v4 ev4
  have gv4 : rng v4 := by rw [ev4]; exact g3
  refine q_istore_n (lv' := [(3, .int (gI v4)), (2, .int (gI 0)), (0, .ref (rh a0 k0_)), (1, .int (gI a1))]) C rfl (by decide) rfl dJ7_fill_031fb_4 ?_
  refine q_lv (lv' := [(0, .ref (rh a0 k0_)), (1, .int (gI a1)), (2, .int (gI 0)), (3, .int (gI v4))]) [2, 3, 1, 0] rfl ?_
  obtain ⟨j5, h⟩ := h
  exact t5  j5 0 v4 M h
set_option maxHeartbeats 4000000 in
set_option maxRecDepth 100000 in
theorem mJ7_fill_53178 (l : Launch) (D : va_G) (cy : Nat → ClassId) (kd : gKd) (ln : gLn) (rh : gRh) (post : gM → Prop) (a0 : Int) (k0_ : Nat) (a1 : Int) (M : gM) (hp0 : gak (kd a0) k0_ = 8) (hq0 : ∀ x, rng x → gRg (kd a0) k0_ x) (h : wJ7_fill_53178 kd ln post a0 k0_ a1 M) : gMV l D cy yJ7_fill_53178 cJ7_fill_53178 4 0 0 [.ref (rh a0 k0_), .int (gI a1)] kd ln rh M post := by
  refine gMV_of (own := RJ7) (by decide) rfl (Nat.le_of_ble_eq_true rfl) ?_
  intro p e s m args below meth c A H0 Q C hret
  have t5 : ∀ (n : Nat) (x2 : Int) (x3 : Int) (M : gM), wJ7_fill_53178_5 kd ln post a0 k0_ a1 n x2 x3 M → gW p l e (gRm 0 0) s m args below meth c D cy A H0 Q 4 kd ln rh 0 0 M 5 [(0, .ref (rh a0 k0_)), (1, .int (gI a1)), (2, .int (gI x2)), (3, .int (gI x3))] [] := by
    intro n
    induction n with
    | zero => intro x2 x3 M h; exact absurd h (by simp [wJ7_fill_53178_5])
    | succ n ih =>
      intro x2 x3 M h
      have hk5_ := ih
      rw [wJ7_fill_53178_5] at h
      refine q_iload_n C 2 rfl rfl dJ7_fill_53178_5 ?_
      refine q_iload_n C 3 rfl rfl dJ7_fill_53178_6 ?_
      obtain ⟨r5, h⟩ := h
      obtain ⟨r6, h⟩ := h
      refine q_icmp_ge (tgt := 20) C r5 r6 (by decide) dJ7_fill_53178_7 (fun b7 => ?_) (fun b7 => ?_)
      · have h := h.1 b7
        exact hret M _ _ dJ7_fill_53178_20 h
      · have h := h.2 b7
        refine q_aload_n C 0 rfl rfl dJ7_fill_53178_10 ?_
        refine q_iload_n C 2 rfl rfl dJ7_fill_53178_11 ?_
        refine q_iload_n C 1 rfl rfl dJ7_fill_53178_12 ?_
        obtain ⟨r8, h⟩ := h
        obtain ⟨r9, h⟩ := h
        refine q_iast C rfl hp0 (hq0 _ r9) r8 dJ7_fill_53178_13 ?_
        refine q_iinc (lv' := [(2, .int (gI (x2 + 1))), (0, .ref (rh a0 k0_)), (1, .int (gI a1)), (3, .int (gI x3))]) C 2 rfl (by decide) rfl dJ7_fill_53178_14 ?_
        refine q_goto (tgt := 5) C (by decide) dJ7_fill_53178_17 ?_
        refine q_lv (lv' := [(0, .ref (rh a0 k0_)), (1, .int (gI a1)), (2, .int (gI (x2 + 1))), (3, .int (gI x3))]) [1, 2, 0, 3] rfl ?_
        exact hk5_ (x2 + 1) x3 (gu M a0 k0_ x2 a1) h
  unfold wJ7_fill_53178 at h
  refine q_iconst C dJ7_fill_53178_0 ?_
  refine q_istore_n (lv' := [(2, .int (gI 0)), (0, .ref (rh a0 k0_)), (1, .int (gI a1))]) C rfl (by decide) rfl dJ7_fill_53178_1 ?_
  refine q_aload_n C 1 rfl rfl dJ7_fill_53178_2 ?_
  obtain ⟨r1, h⟩ := h
  refine q_alen (t0 := 0) C rfl (by rw [hp0]; rfl) r1 dJ7_fill_53178_3 (fun g2 => ?_)
  have h := h g2
  have g3 : rng (ln a0 k0_) := ⟨by omega, by omega⟩
  refine q_topi (fun v4 ev4 => ?_)
  have h := h v4 ev4
  have gv4 : rng v4 := by rw [ev4]; exact g3
  refine q_istore_n (lv' := [(3, .int (gI v4)), (2, .int (gI 0)), (0, .ref (rh a0 k0_)), (1, .int (gI a1))]) C rfl (by decide) rfl dJ7_fill_53178_4 ?_
  refine q_lv (lv' := [(0, .ref (rh a0 k0_)), (1, .int (gI a1)), (2, .int (gI 0)), (3, .int (gI v4))]) [2, 3, 1, 0] rfl ?_
  obtain ⟨j5, h⟩ := h
  exact t5  j5 0 v4 M h
set_option maxHeartbeats 4000000 in
set_option maxRecDepth 100000 in
theorem mX0_holds (l : Launch) (D : va_G) (cy : Nat → ClassId) (kd : gKd) (ln : gLn) (rh : gRh) (post : Int → gM → Prop) (a0 : Int) (a1 : Int) (M : gM) (hk0 : kd a0 = 0) (h : wX0_holds kd ln post a0 a1 M) : gMI l D cy yX0_holds cX0_holds 2 .boolean 0 0 [.ref (gad a0), .int (gI a1)] kd ln rh M post := by
  refine gMI_ofZ (own := RX0) (by decide) rfl (Nat.le_of_ble_eq_true rfl) ?_
  intro p e s m args below meth c A H0 Q C hret
  unfold wX0_holds at h
  refine q_iload_n C 1 rfl rfl dX0_holds_0 ?_
  obtain ⟨r1, h⟩ := h
  refine q_if_lt (tgt := 16) C r1 (by decide) dX0_holds_1 (fun b2 => ?_) (fun b2 => ?_)
  · have h := h.1 b2
    refine q_iconst C dX0_holds_16 ?_
    exact hret 0 M _ _ dX0_holds_17 (Or.inl rfl) h
  · have h := h.2 b2
    refine q_iload_n C 1 rfl rfl dX0_holds_4 ?_
    refine q_aload_n C 0 rfl rfl dX0_holds_5 ?_
    refine q_get (v := .int (gI (M a0 1 (-1)))) C fX0_21 hk0 rfl dX0_holds_6 (fun g3 => ?_)
    have h := h g3
    refine q_icmp_ge (tgt := 16) C r1 g3 (by decide) dX0_holds_9 (fun b4 => ?_) (fun b4 => ?_)
    · have h := h.1 b4
      refine q_iconst C dX0_holds_16 ?_
      exact hret 0 M _ _ dX0_holds_17 (Or.inl rfl) h
    · have h := h.2 b4
      refine q_iconst C dX0_holds_12 ?_
      refine q_goto (tgt := 17) C (by decide) dX0_holds_13 ?_
      exact hret 1 M _ _ dX0_holds_17 (Or.inr rfl) h
set_option maxHeartbeats 4000000 in
set_option maxRecDepth 100000 in
theorem mX6_has (l : Launch) (D : va_G) (cy : Nat → ClassId) (kd : gKd) (ln : gLn) (rh : gRh) (post : Int → gM → Prop) (a0 : BitVec 64) (a2 : Int) (M : gM)  (h : wX6_has kd ln post a0 a2 M) : gMI l D cy yX6_has cX6_has 3 .boolean 0 0 [.long (gL a0), .int (gI a2)] kd ln rh M post := by
  refine gMI_ofZ (own := RX6) (by decide) rfl (Nat.le_of_ble_eq_true rfl) ?_
  intro p e s m args below meth c A H0 Q C hret
  unfold wX6_has at h
  refine q_lload_n C 0 rfl rfl dX6_has_0 ?_
  refine q_iload_n C 1 rfl rfl dX6_has_1 ?_
  refine q_lushr C dX6_has_2 ?_
  refine q_lconst (b := 1) C rfl dX6_has_3 ?_
  refine q_land C dX6_has_4 ?_
  refine q_lconst (b := 0) C rfl dX6_has_5 ?_
  refine q_lcmp C dX6_has_6 ?_
  refine q_if_eq (tgt := 14) C (rng_of _) (by decide) dX6_has_7 (fun b1 => ?_) (fun b1 => ?_)
  · have h := h.1 b1
    refine q_iconst C dX6_has_14 ?_
    exact hret 0 M _ _ dX6_has_15 (Or.inl rfl) h
  · have h := h.2 b1
    refine q_iconst C dX6_has_10 ?_
    refine q_goto (tgt := 15) C (by decide) dX6_has_11 ?_
    exact hret 1 M _ _ dX6_has_15 (Or.inr rfl) h
set_option maxHeartbeats 4000000 in
set_option maxRecDepth 100000 in
theorem mX0_areNext (l : Launch) (D : va_G) (cy : Nat → ClassId) (kd : gKd) (ln : gLn) (rh : gRh) (post : Int → gM → Prop) (a0 : Int) (a1 : Int) (a2 : Int) (M : gM) (hk0 : kd a0 = 0) (h : wX0_areNext kd ln post a0 a1 a2 M) : gMI l D cy yX0_areNext cX0_areNext 3 .boolean 1 22 [.ref (gad a0), .int (gI a1), .int (gI a2)] kd ln rh M post := by
  refine gMI_ofZ (own := RX0) (by decide) rfl (Nat.le_of_ble_eq_true rfl) ?_
  intro p e s m args below meth c A H0 Q C hret
  unfold wX0_areNext at h
  refine q_aload_n C 0 rfl rfl dX0_areNext_0 ?_
  obtain ⟨r1, h⟩ := h
  refine q_get (v := .ref (rh a0 6)) C fX0_31 hk0 (if_neg (Int.not_lt.mpr r1)) dX0_areNext_1 (fun g2 => ?_)
  refine q_iload_n C 1 rfl rfl dX0_areNext_4 ?_
  obtain ⟨r3, h⟩ := h
  refine q_lald C hk0 rfl (fun _ q => q) r3 dX0_areNext_5 (fun g4 => ?_)
  have h := h g4
  refine q_iload_n C 2 rfl rfl dX0_areNext_6 ?_
  refine q_callNI (As := [.long (gL (BitVec.ofInt 64 (M a0 6 a1))), .int (gI a2)]) (st := []) C vX0_70 kX6_has ⟨Nat.le_of_ble_eq_true rfl, Nat.le_of_ble_eq_true rfl⟩ ⟨Nat.le_of_ble_eq_true rfl, Nat.le_of_ble_eq_true rfl⟩ rfl rfl (Nat.le_of_ble_eq_true rfl) (mX6_has l D cy kd ln rh _ (BitVec.ofInt 64 (M a0 6 a1)) a2 M  h) dX0_areNext_7 (fun c6 M5 g7 h => ?_)
  have h := h g7
  obtain ⟨r8, h⟩ := h
  exact hret c6 M5 _ _ dX0_areNext_10 r8 h
set_option maxHeartbeats 4000000 in
set_option maxRecDepth 100000 in
theorem mX0_isLastRank (l : Launch) (D : va_G) (cy : Nat → ClassId) (kd : gKd) (ln : gLn) (rh : gRh) (post : Int → gM → Prop) (a0 : Int) (a1 : Int) (M : gM) (hk0 : kd a0 = 0) (h : wX0_isLastRank kd ln post a0 a1 M) : gMI l D cy yX0_isLastRank cX0_isLastRank 2 .boolean 0 0 [.ref (gad a0), .int (gI a1)] kd ln rh M post := by
  refine gMI_ofZ (own := RX0) (by decide) rfl (Nat.le_of_ble_eq_true rfl) ?_
  intro p e s m args below meth c A H0 Q C hret
  unfold wX0_isLastRank at h
  refine q_iload_n C 1 rfl rfl dX0_isLastRank_0 ?_
  refine q_aload_n C 0 rfl rfl dX0_isLastRank_1 ?_
  refine q_get (v := .int (gI (M a0 1 (-1)))) C fX0_21 hk0 rfl dX0_isLastRank_2 (fun g1 => ?_)
  have h := h g1
  refine q_aload_n C 0 rfl rfl dX0_isLastRank_5 ?_
  refine q_get (v := .int (gI (M a0 0 (-1)))) C fX0_17 hk0 rfl dX0_isLastRank_6 (fun g2 => ?_)
  have h := h g2
  refine q_isub C dX0_isLastRank_9 ?_
  obtain ⟨r3, h⟩ := h
  obtain ⟨r4, h⟩ := h
  refine q_icmp_lt (tgt := 17) C r3 r4 (by decide) dX0_isLastRank_10 (fun b5 => ?_) (fun b5 => ?_)
  · have h := h.1 b5
    refine q_iconst C dX0_isLastRank_17 ?_
    exact hret 0 M _ _ dX0_isLastRank_18 (Or.inl rfl) h
  · have h := h.2 b5
    refine q_iconst C dX0_isLastRank_13 ?_
    refine q_goto (tgt := 18) C (by decide) dX0_isLastRank_14 ?_
    exact hret 1 M _ _ dX0_isLastRank_18 (Or.inr rfl) h
set_option maxHeartbeats 4000000 in
set_option maxRecDepth 100000 in
theorem mX0_sight (l : Launch) (D : va_G) (cy : Nat → ClassId) (kd : gKd) (ln : gLn) (rh : gRh) (post : BitVec 64 → gM → Prop) (a0 : Int) (a1 : Int) (a2 : Int) (a3 : Int) (M : gM) (hk0 : kd a0 = 0) (h : wX0_sight kd ln post a0 a1 a2 a3 M) : gML l D cy yX0_sight cX0_sight 4 0 0 [.ref (gad a0), .int (gI a1), .int (gI a2), .int (gI a3)] kd ln rh M post := by
  refine gML_of (own := RX0) (by decide) rfl (Nat.le_of_ble_eq_true rfl) ?_
  intro p e s m args below meth c A H0 Q C hret
  unfold wX0_sight at h
  refine q_aload_n C 0 rfl rfl dX0_sight_0 ?_
  obtain ⟨r1, h⟩ := h
  refine q_get (v := .ref (rh a0 7)) C fX0_37 hk0 (if_neg (Int.not_lt.mpr r1)) dX0_sight_1 (fun g2 => ?_)
  refine q_iload_n C 1 rfl rfl dX0_sight_4 ?_
  obtain ⟨r3, h⟩ := h
  refine q_aaldR C hk0 rfl r3 dX0_sight_5 ?_
  refine q_iload_n C 3 rfl rfl dX0_sight_6 ?_
  obtain ⟨r4, h⟩ := h
  refine q_lald C hk0 (gak_row _) (fun _ q => gRg_row q) r4 dX0_sight_7 (fun g5 => ?_)
  have h := h g5
  refine q_aload_n C 0 rfl rfl dX0_sight_8 ?_
  obtain ⟨r6, h⟩ := h
  refine q_get (v := .ref (rh a0 8)) C fX0_40 hk0 (if_neg (Int.not_lt.mpr r6)) dX0_sight_9 (fun g7 => ?_)
  refine q_iload_n C 3 rfl rfl dX0_sight_12 ?_
  refine q_aload_n C 0 rfl rfl dX0_sight_13 ?_
  refine q_get (v := .int (gI (M a0 1 (-1)))) C fX0_21 hk0 rfl dX0_sight_14 (fun g8 => ?_)
  have h := h g8
  refine q_imul C dX0_sight_17 ?_
  refine q_iload_n C 2 rfl rfl dX0_sight_18 ?_
  refine q_iadd C dX0_sight_19 ?_
  obtain ⟨r9, h⟩ := h
  refine q_lald C hk0 rfl (fun _ q => q) r9 dX0_sight_20 (fun g10 => ?_)
  have h := h g10
  refine q_ldc2 (b := 18446744073709551615) C nX0_92 (by decide) dX0_sight_21 ?_
  refine q_lxor C dX0_sight_24 ?_
  refine q_land C dX0_sight_25 ?_
  exact hret ((BitVec.ofInt 64 (M a0 (100 + a1.toNat) a3)) &&& ((BitVec.ofInt 64 (M a0 8 ((a3 * (M a0 1 (-1))) + a2))) ^^^ (18446744073709551615 : BitVec 64))) M _ _ dX0_sight_26 h
set_option maxHeartbeats 4000000 in
set_option maxRecDepth 100000 in
theorem mX0_attacks (l : Launch) (D : va_G) (cy : Nat → ClassId) (kd : gKd) (ln : gLn) (rh : gRh) (post : Int → gM → Prop) (a0 : Int) (a1 : Int) (a2 : Int) (a3 : Int) (a4 : Int) (M : gM) (hk0 : kd a0 = 0) (h : wX0_attacks kd ln post a0 a1 a2 a3 a4 M) : gMI l D cy yX0_attacks cX0_attacks 5 .boolean 1 23 [.ref (gad a0), .int (gI a1), .int (gI a2), .int (gI a3), .int (gI a4)] kd ln rh M post := by
  refine gMI_ofZ (own := RX0) (by decide) rfl (Nat.le_of_ble_eq_true rfl) ?_
  intro p e s m args below meth c A H0 Q C hret
  unfold wX0_attacks at h
  refine q_aload_n C 0 rfl rfl dX0_attacks_0 ?_
  refine q_iload_n C 1 rfl rfl dX0_attacks_1 ?_
  refine q_iload_n C 2 rfl rfl dX0_attacks_2 ?_
  refine q_iload C 4 rfl dX0_attacks_3 ?_
  refine q_callVL (As := [.int (gI a1), .int (gI a2), .int (gI a4)]) (st := []) C vX0_89 kX0_sight ⟨Nat.le_of_ble_eq_true rfl, Nat.le_of_ble_eq_true rfl⟩ ⟨Nat.le_of_ble_eq_true rfl, Nat.le_of_ble_eq_true rfl⟩ rfl hk0 ⟨_, _, rfl⟩ (by decide) rfl (Nat.le_of_ble_eq_true rfl) (mX0_sight l D cy kd ln rh _ a0 a1 a2 a4 M hk0 h) dX0_attacks_5 (fun c2 M1 h => ?_)
  refine q_iload_n C 3 rfl rfl dX0_attacks_8 ?_
  refine q_callNI (As := [.long (gL c2), .int (gI a3)]) (st := []) C vX0_70 kX6_has ⟨Nat.le_of_ble_eq_true rfl, Nat.le_of_ble_eq_true rfl⟩ ⟨Nat.le_of_ble_eq_true rfl, Nat.le_of_ble_eq_true rfl⟩ rfl rfl (Nat.le_of_ble_eq_true rfl) (mX6_has l D cy kd ln rh _ c2 a3 M1  h) dX0_attacks_9 (fun c5 M4 g6 h => ?_)
  have h := h g6
  obtain ⟨r7, h⟩ := h
  exact hret c5 M4 _ _ dX0_attacks_12 r7 h
set_option maxHeartbeats 4000000 in
set_option maxRecDepth 100000 in
theorem mX0_allows (l : Launch) (D : va_G) (cy : Nat → ClassId) (kd : gKd) (ln : gLn) (rh : gRh) (post : Int → gM → Prop) (a0 : Int) (a1 : Int) (a2 : Int) (a3 : Int) (a4 : Int) (a5 : Int) (M : gM) (hk0 : kd a0 = 0) (h : wX0_allows kd ln post a0 a1 a2 a3 a4 a5 M) : gMI l D cy yX0_allows cX0_allows 6 .boolean 2 47 [.ref (gad a0), .int (gI a1), .int (gI a2), .int (gI a3), .int (gI a4), .int (gI a5)] kd ln rh M post := by
  refine gMI_ofZ (own := RX0) (by decide) rfl (Nat.le_of_ble_eq_true rfl) ?_
  intro p e s m args below meth c A H0 Q C hret
  have t120 : ∀ (M : gM), wX0_allows_120 kd ln post a0 a1 a2 a3 a4 a5  M → gW p l e (gRm 2 47) s m args below meth c D cy A H0 Q 6 kd ln rh 0 0 M 120 [] [] := by
    intro   M h
    unfold wX0_allows_120 at h
    refine q_iconst C dX0_allows_120 ?_
    refine q_goto (tgt := 125) C (by decide) dX0_allows_121 ?_
    exact hret 1 M _ _ dX0_allows_125 (Or.inr rfl) h
  have t102 : ∀ (M : gM), wX0_allows_102 kd ln post a0 a1 a2 a3 a4 a5  M → gW p l e (gRm 2 47) s m args below meth c D cy A H0 Q 6 kd ln rh 0 0 M 102 [(0, .ref (gad a0)), (1, .int (gI a1)), (2, .int (gI a2)), (3, .int (gI a3)), (4, .int (gI a4)), (5, .int (gI a5))] [] := by
    intro   M h
    unfold wX0_allows_102 at h
    refine q_iload C 5 rfl dX0_allows_102 ?_
    refine q_iconst C dX0_allows_104 ?_
    obtain ⟨r36, h⟩ := h
    refine q_icmp_eq (tgt := 120) C r36 (show rng 1 by decide) (by decide) dX0_allows_105 (fun b37 => ?_) (fun b37 => ?_)
    · have h := h.1 b37
      refine q_lv (lv' := []) [] rfl ?_
      exact t120  M h
    · have h := h.2 b37
      refine q_aload_n C 0 rfl rfl dX0_allows_108 ?_
      refine q_iload_n C 1 rfl rfl dX0_allows_109 ?_
      refine q_iload_n C 2 rfl rfl dX0_allows_110 ?_
      refine q_iload_n C 3 rfl rfl dX0_allows_111 ?_
      refine q_iload C 4 rfl dX0_allows_112 ?_
      refine q_callVI (As := [.int (gI a1), .int (gI a2), .int (gI a3), .int (gI a4)]) (st := []) C vX0_85 kX0_attacks ⟨Nat.le_of_ble_eq_true rfl, Nat.le_of_ble_eq_true rfl⟩ ⟨Nat.le_of_ble_eq_true rfl, Nat.le_of_ble_eq_true rfl⟩ rfl hk0 ⟨_, _, rfl⟩ (by decide) rfl (Nat.le_of_ble_eq_true rfl) (mX0_attacks l D cy kd ln rh _ a0 a1 a2 a3 a4 M hk0 h) dX0_allows_114 (fun c39 M38 g40 h => ?_)
      have h := h g40
      refine q_if_ne (tgt := 124) C g40 (by decide) dX0_allows_117 (fun b41 => ?_) (fun b41 => ?_)
      · have h := h.1 b41
        refine q_iconst C dX0_allows_124 ?_
        exact hret 0 M38 _ _ dX0_allows_125 (Or.inl rfl) h
      · have h := h.2 b41
        refine q_lv (lv' := []) [] rfl ?_
        exact t120  M38 h
  unfold wX0_allows at h
  refine q_iload_n C 1 rfl rfl dX0_allows_0 ?_
  obtain ⟨r1, h⟩ := h
  refine q_if_lt (tgt := 20) C r1 (by decide) dX0_allows_1 (fun b2 => ?_) (fun b2 => ?_)
  · have h := h.1 b2
    refine q_iconst C dX0_allows_20 ?_
    exact hret 0 M _ _ dX0_allows_21 (Or.inl rfl) h
  · have h := h.2 b2
    refine q_iload_n C 1 rfl rfl dX0_allows_4 ?_
    refine q_iconst C dX0_allows_5 ?_
    refine q_icmp_gt (tgt := 20) C r1 (show rng 2 by decide) (by decide) dX0_allows_6 (fun b3 => ?_) (fun b3 => ?_)
    · have h := h.1 b3
      refine q_iconst C dX0_allows_20 ?_
      exact hret 0 M _ _ dX0_allows_21 (Or.inl rfl) h
    · have h := h.2 b3
      refine q_iload C 5 rfl dX0_allows_9 ?_
      obtain ⟨r4, h⟩ := h
      refine q_if_lt (tgt := 20) C r4 (by decide) dX0_allows_11 (fun b5 => ?_) (fun b5 => ?_)
      · have h := h.1 b5
        refine q_iconst C dX0_allows_20 ?_
        exact hret 0 M _ _ dX0_allows_21 (Or.inl rfl) h
      · have h := h.2 b5
        refine q_iload C 5 rfl dX0_allows_14 ?_
        refine q_iconst C dX0_allows_16 ?_
        refine q_icmp_le (tgt := 22) C r4 (show rng 1 by decide) (by decide) dX0_allows_17 (fun b6 => ?_) (fun b6 => ?_)
        · have h := h.1 b6
          refine q_aload_n C 0 rfl rfl dX0_allows_22 ?_
          refine q_iload_n C 2 rfl rfl dX0_allows_23 ?_
          refine q_callVI (As := [.int (gI a2)]) (st := []) C vX0_74 kX0_holds ⟨Nat.le_of_ble_eq_true rfl, Nat.le_of_ble_eq_true rfl⟩ ⟨Nat.le_of_ble_eq_true rfl, Nat.le_of_ble_eq_true rfl⟩ rfl hk0 ⟨_, _, rfl⟩ (by decide) rfl (Nat.le_of_ble_eq_true rfl) (mX0_holds l D cy kd ln rh _ a0 a2 M hk0 h) dX0_allows_24 (fun c8 M7 g9 h => ?_)
          have h := h g9
          refine q_if_eq (tgt := 47) C g9 (by decide) dX0_allows_27 (fun b10 => ?_) (fun b10 => ?_)
          · have h := h.1 b10
            refine q_iconst C dX0_allows_47 ?_
            exact hret 0 M7 _ _ dX0_allows_48 (Or.inl rfl) h
          · have h := h.2 b10
            refine q_aload_n C 0 rfl rfl dX0_allows_30 ?_
            refine q_iload_n C 3 rfl rfl dX0_allows_31 ?_
            refine q_callVI (As := [.int (gI a3)]) (st := []) C vX0_74 kX0_holds ⟨Nat.le_of_ble_eq_true rfl, Nat.le_of_ble_eq_true rfl⟩ ⟨Nat.le_of_ble_eq_true rfl, Nat.le_of_ble_eq_true rfl⟩ rfl hk0 ⟨_, _, rfl⟩ (by decide) rfl (Nat.le_of_ble_eq_true rfl) (mX0_holds l D cy kd ln rh _ a0 a3 M7 hk0 h) dX0_allows_32 (fun c12 M11 g13 h => ?_)
            have h := h g13
            refine q_if_eq (tgt := 47) C g13 (by decide) dX0_allows_35 (fun b14 => ?_) (fun b14 => ?_)
            · have h := h.1 b14
              refine q_iconst C dX0_allows_47 ?_
              exact hret 0 M11 _ _ dX0_allows_48 (Or.inl rfl) h
            · have h := h.2 b14
              refine q_aload_n C 0 rfl rfl dX0_allows_38 ?_
              refine q_iload C 4 rfl dX0_allows_39 ?_
              refine q_callVI (As := [.int (gI a4)]) (st := []) C vX0_74 kX0_holds ⟨Nat.le_of_ble_eq_true rfl, Nat.le_of_ble_eq_true rfl⟩ ⟨Nat.le_of_ble_eq_true rfl, Nat.le_of_ble_eq_true rfl⟩ rfl hk0 ⟨_, _, rfl⟩ (by decide) rfl (Nat.le_of_ble_eq_true rfl) (mX0_holds l D cy kd ln rh _ a0 a4 M11 hk0 h) dX0_allows_41 (fun c16 M15 g17 h => ?_)
              have h := h g17
              refine q_if_ne (tgt := 49) C g17 (by decide) dX0_allows_44 (fun b18 => ?_) (fun b18 => ?_)
              · have h := h.1 b18
                refine q_iload_n C 2 rfl rfl dX0_allows_49 ?_
                refine q_iload_n C 3 rfl rfl dX0_allows_50 ?_
                obtain ⟨r19, h⟩ := h
                obtain ⟨r20, h⟩ := h
                refine q_icmp_eq (tgt := 75) C r19 r20 (by decide) dX0_allows_51 (fun b21 => ?_) (fun b21 => ?_)
                · have h := h.1 b21
                  refine q_iconst C dX0_allows_75 ?_
                  exact hret 0 M15 _ _ dX0_allows_76 (Or.inl rfl) h
                · have h := h.2 b21
                  refine q_iload_n C 2 rfl rfl dX0_allows_54 ?_
                  refine q_iload C 4 rfl dX0_allows_55 ?_
                  obtain ⟨r22, h⟩ := h
                  refine q_icmp_eq (tgt := 75) C r19 r22 (by decide) dX0_allows_57 (fun b23 => ?_) (fun b23 => ?_)
                  · have h := h.1 b23
                    refine q_iconst C dX0_allows_75 ?_
                    exact hret 0 M15 _ _ dX0_allows_76 (Or.inl rfl) h
                  · have h := h.2 b23
                    refine q_iload_n C 3 rfl rfl dX0_allows_60 ?_
                    refine q_iload C 4 rfl dX0_allows_61 ?_
                    refine q_icmp_eq (tgt := 75) C r20 r22 (by decide) dX0_allows_63 (fun b24 => ?_) (fun b24 => ?_)
                    · have h := h.1 b24
                      refine q_iconst C dX0_allows_75 ?_
                      exact hret 0 M15 _ _ dX0_allows_76 (Or.inl rfl) h
                    · have h := h.2 b24
                      refine q_aload_n C 0 rfl rfl dX0_allows_66 ?_
                      refine q_iload_n C 2 rfl rfl dX0_allows_67 ?_
                      refine q_iload_n C 3 rfl rfl dX0_allows_68 ?_
                      refine q_callVI (As := [.int (gI a2), .int (gI a3)]) (st := []) C vX0_78 kX0_areNext ⟨Nat.le_of_ble_eq_true rfl, Nat.le_of_ble_eq_true rfl⟩ ⟨Nat.le_of_ble_eq_true rfl, Nat.le_of_ble_eq_true rfl⟩ rfl hk0 ⟨_, _, rfl⟩ (by decide) rfl (Nat.le_of_ble_eq_true rfl) (mX0_areNext l D cy kd ln rh _ a0 a2 a3 M15 hk0 h) dX0_allows_69 (fun c26 M25 g27 h => ?_)
                      have h := h g27
                      refine q_if_eq (tgt := 77) C g27 (by decide) dX0_allows_72 (fun b28 => ?_) (fun b28 => ?_)
                      · have h := h.1 b28
                        refine q_iload_n C 1 rfl rfl dX0_allows_77 ?_
                        refine q_iconst C dX0_allows_78 ?_
                        refine q_icmp_ne (tgt := 102) C r1 (show rng 2 by decide) (by decide) dX0_allows_79 (fun b29 => ?_) (fun b29 => ?_)
                        · have h := h.1 b29
                          exact t102  M25 h
                        · have h := h.2 b29
                          refine q_iload C 4 rfl dX0_allows_82 ?_
                          refine q_aload_n C 0 rfl rfl dX0_allows_84 ?_
                          refine q_get (v := .int (gI (M25 a0 0 (-1)))) C fX0_17 hk0 rfl dX0_allows_85 (fun g30 => ?_)
                          have h := h g30
                          refine q_icmp_lt (tgt := 100) C r22 g30 (by decide) dX0_allows_88 (fun b31 => ?_) (fun b31 => ?_)
                          · have h := h.1 b31
                            refine q_iconst C dX0_allows_100 ?_
                            exact hret 0 M25 _ _ dX0_allows_101 (Or.inl rfl) h
                          · have h := h.2 b31
                            refine q_aload_n C 0 rfl rfl dX0_allows_91 ?_
                            refine q_iload C 4 rfl dX0_allows_92 ?_
                            refine q_callVI (As := [.int (gI a4)]) (st := []) C vX0_82 kX0_isLastRank ⟨Nat.le_of_ble_eq_true rfl, Nat.le_of_ble_eq_true rfl⟩ ⟨Nat.le_of_ble_eq_true rfl, Nat.le_of_ble_eq_true rfl⟩ rfl hk0 ⟨_, _, rfl⟩ (by decide) rfl (Nat.le_of_ble_eq_true rfl) (mX0_isLastRank l D cy kd ln rh _ a0 a4 M25 hk0 h) dX0_allows_94 (fun c33 M32 g34 h => ?_)
                            have h := h g34
                            refine q_if_eq (tgt := 102) C g34 (by decide) dX0_allows_97 (fun b35 => ?_) (fun b35 => ?_)
                            · have h := h.1 b35
                              exact t102  M32 h
                            · have h := h.2 b35
                              refine q_iconst C dX0_allows_100 ?_
                              exact hret 0 M32 _ _ dX0_allows_101 (Or.inl rfl) h
                      · have h := h.2 b28
                        refine q_iconst C dX0_allows_75 ?_
                        exact hret 0 M25 _ _ dX0_allows_76 (Or.inl rfl) h
              · have h := h.2 b18
                refine q_iconst C dX0_allows_47 ?_
                exact hret 0 M15 _ _ dX0_allows_48 (Or.inl rfl) h
        · have h := h.2 b6
          refine q_iconst C dX0_allows_20 ?_
          exact hret 0 M _ _ dX0_allows_21 (Or.inl rfl) h
set_option maxHeartbeats 4000000 in
set_option maxRecDepth 100000 in
theorem mX6_demandMade (l : Launch) (D : va_G) (cy : Nat → ClassId) (kd : gKd) (ln : gLn) (rh : gRh) (post : Int → gM → Prop) (px : gM → Prop) (a0 : Int) (a1 : Int) (M : gM) (hst : l.stackTraces = false) (hk0 : kd a0 = 6) (h : wX6_demandMade kd ln post px a0 a1 M) : gTR l D cy yX6_demandMade cX6_demandMade 3 RX5 6 96 [.ref (gad a0), .int (gI a1)] kd ln rh M post px := by
  refine gTR_of (own := RX6) (by decide) rfl (Nat.le_of_ble_eq_true rfl) hst rfl ?_
  intro p e s m args below meth c A H0 Q C hret hthr hexc
  have t31 : ∀ (y0 : Int) (M : gM), wX6_demandMade_31 kd ln post px a0 a1 y0 M → gW p l e (gRt 6 96) s m args below meth c D cy A H0 Q 3 kd ln rh 0 0 M 31 [] [gR y0] := by
    intro  y0 M h
    unfold wX6_demandMade_31 at h
    refine q_astoreR_n (lv' := [(2, gR y0)]) C rfl (by decide) rfl dX6_demandMade_31 ?_
    refine q_aloadR_n C 0 rfl rfl dX6_demandMade_32 ?_
    refine q_ifnonnull (tgt := 46) C (by decide) dX6_demandMade_33 (fun b14 => ?_) (fun b14 => ?_)
    · have h := h.1 b14
      refine q_aloadR_n C 0 rfl rfl dX6_demandMade_46 ?_
      obtain ⟨r15, h⟩ := h
      refine q_nn r15 (by decide) ?_
      exact hret y0 M _ _ 0 0 (by decide) (by decide) dX6_demandMade_47 h
    · have h := h.2 b14
      exact hthr (196, "no such table", 23) M _ _ _ (by decide) dX6_demandMade_36 dX6_demandMade_39 dX6_demandMade_40 dX6_demandMade_42 dX6_demandMade_45 (by decide) (Nat.le_of_ble_eq_true rfl) h
  have t18 : ∀ (M : gM), wX6_demandMade_18 kd ln post px a0 a1  M → gW p l e (gRt 6 96) s m args below meth c D cy A H0 Q 3 kd ln rh 0 0 M 18 [] [] := by
    intro   M h
    unfold wX6_demandMade_18 at h
    refine q_null C dX6_demandMade_18 ?_
    refine q_goto (tgt := 31) C (by decide) dX6_demandMade_19 ?_
    exact t31  0 M h
  unfold wX6_demandMade at h
  refine q_iload_n C 1 rfl rfl dX6_demandMade_0 ?_
  obtain ⟨r1, h⟩ := h
  refine q_if_lt (tgt := 18) C r1 (by decide) dX6_demandMade_1 (fun b2 => ?_) (fun b2 => ?_)
  · have h := h.1 b2
    refine q_lv (lv' := []) [] rfl ?_
    exact t18  M h
  · have h := h.2 b2
    refine q_iload_n C 1 rfl rfl dX6_demandMade_4 ?_
    refine q_iconst C dX6_demandMade_5 ?_
    refine q_icmp_gt (tgt := 18) C r1 (show rng 2 by decide) (by decide) dX6_demandMade_6 (fun b3 => ?_) (fun b3 => ?_)
    · have h := h.1 b3
      refine q_lv (lv' := []) [] rfl ?_
      exact t18  M h
    · have h := h.2 b3
      refine q_aload_n C 0 rfl rfl dX6_demandMade_9 ?_
      obtain ⟨r4, h⟩ := h
      refine q_get (v := .ref (rh a0 2)) C fX6_15 hk0 (if_neg (Int.not_lt.mpr r4)) dX6_demandMade_10 (fun g5 => ?_)
      refine q_iload_n C 1 rfl rfl dX6_demandMade_13 ?_
      obtain ⟨r6, h⟩ := h
      refine q_zald C hk0 rfl (fun _ q => q) r6 dX6_demandMade_14 (fun g7 => ?_)
      have h := h g7
      refine q_if_ne (tgt := 22) C g7 (by decide) dX6_demandMade_15 (fun b8 => ?_) (fun b8 => ?_)
      · have h := h.1 b8
        refine q_aload_n C 0 rfl rfl dX6_demandMade_22 ?_
        refine q_get (v := gR (M a0 1 (-1))) C fX6_52 hk0 rfl dX6_demandMade_23 (fun g9 => ?_)
        obtain ⟨r10, h⟩ := h
        refine q_nn r10 (by decide) ?_
        obtain ⟨r11, h⟩ := h
        refine q_get (v := .ref (rh (M a0 1 (-1)) 5)) C fX6_190 r10 (if_neg (Int.not_lt.mpr r11)) dX6_demandMade_26 (fun g12 => ?_)
        refine q_iload_n C 1 rfl rfl dX6_demandMade_29 ?_
        obtain ⟨r13, h⟩ := h
        refine q_aald (t0 := 5) C r10 rfl (fun _ _ => rfl) rfl r13 dX6_demandMade_30 ?_
        refine q_lv (lv' := []) [] rfl ?_
        exact t31  (M (M a0 1 (-1)) 5 a1) M h
      · have h := h.2 b8
        refine q_lv (lv' := []) [] rfl ?_
        exact t18  M h
set_option maxHeartbeats 4000000 in
set_option maxRecDepth 100000 in
theorem mX6_demandTable (l : Launch) (D : va_G) (cy : Nat → ClassId) (kd : gKd) (ln : gLn) (rh : gRh) (post : Int → gM → Prop) (px : gM → Prop) (a0 : Int) (a1 : Int) (a2 : Int) (a3 : Int) (a4 : Int) (a5 : Int) (M : gM) (hst : l.stackTraces = false) (hk0 : kd a0 = 6) (h : wX6_demandTable kd ln post px a0 a1 a2 a3 a4 a5 M) : gTR l D cy yX6_demandTable cX6_demandTable 6 RX5 7 118 [.ref (gad a0), .int (gI a1), .int (gI a2), .int (gI a3), .int (gI a4), .int (gI a5)] kd ln rh M post px := by
  refine gTR_of (own := RX6) (by decide) rfl (Nat.le_of_ble_eq_true rfl) hst rfl ?_
  intro p e s m args below meth c A H0 Q C hret hthr hexc
  unfold wX6_demandTable at h
  refine q_aload_n C 0 rfl rfl dX6_demandTable_0 ?_
  refine q_get (v := gR (M a0 1 (-1))) C fX6_52 hk0 rfl dX6_demandTable_1 (fun g1 => ?_)
  obtain ⟨r2, h⟩ := h
  refine q_nn r2 (by decide) ?_
  refine q_iload_n C 1 rfl rfl dX6_demandTable_4 ?_
  refine q_iload_n C 2 rfl rfl dX6_demandTable_5 ?_
  refine q_iload_n C 3 rfl rfl dX6_demandTable_6 ?_
  refine q_iload C 4 rfl dX6_demandTable_7 ?_
  refine q_iload C 5 rfl dX6_demandTable_9 ?_
  refine q_callVI (As := [.int (gI a1), .int (gI a2), .int (gI a3), .int (gI a4), .int (gI a5)]) (st := []) C vX6_70 kX0_allows ⟨Nat.le_of_ble_eq_true rfl, Nat.le_of_ble_eq_true rfl⟩ ⟨Nat.le_of_ble_eq_true rfl, Nat.le_of_ble_eq_true rfl⟩ rfl r2 ⟨_, _, rfl⟩ (by decide) rfl (Nat.le_of_ble_eq_true rfl) (mX0_allows l D cy kd ln rh _ (M a0 1 (-1)) a1 a2 a3 a4 a5 M r2 h) dX6_demandTable_11 (fun c4 M3 g5 h => ?_)
  have h := h g5
  refine q_if_ne (tgt := 27) C g5 (by decide) dX6_demandTable_14 (fun b6 => ?_) (fun b6 => ?_)
  · have h := h.1 b6
    refine q_aload_n C 0 rfl rfl dX6_demandTable_27 ?_
    refine q_iload_n C 1 rfl rfl dX6_demandTable_28 ?_
    refine q_callTR (As := [.int (gI a1)]) (st := []) C vX6_138 kX6_demandMade ⟨Nat.le_of_ble_eq_true rfl, Nat.le_of_ble_eq_true rfl⟩ ⟨Nat.le_of_ble_eq_true rfl, Nat.le_of_ble_eq_true rfl⟩ rfl hk0 ⟨_, _, rfl⟩ (by decide) rfl (Nat.le_of_ble_eq_true rfl) (mX6_demandMade l D cy kd ln rh _ _ a0 a1 M3 hst hk0 h) dX6_demandTable_29 (fun M9 h => hexc M9 _ _ _ _ _ (by decide) (by decide) h) (fun c8 M7 h => ?_)
    exact hret c8 M7 _ _ 1 6 (by decide) (by decide) dX6_demandTable_32 h
  · have h := h.2 b6
    exact hthr (203, "no such position", 22) M3 _ _ _ (by decide) dX6_demandTable_17 dX6_demandTable_20 dX6_demandTable_21 dX6_demandTable_23 dX6_demandTable_26 (by decide) (Nat.le_of_ble_eq_true rfl) h
set_option maxHeartbeats 4000000 in
set_option maxRecDepth 100000 in
theorem mX5_cellAt (l : Launch) (D : va_G) (cy : Nat → ClassId) (kd : gKd) (ln : gLn) (rh : gRh) (post : Int → gM → Prop) (a0 : Int) (a1 : Int) (a2 : Int) (M : gM)  (h : wX5_cellAt kd ln post a0 a1 a2 M) : gMI l D cy yX5_cellAt cX5_cellAt 3 .int 0 0 [.int (gI a0), .int (gI a1), .int (gI a2)] kd ln rh M post := by
  refine gMI_of (own := RX5) (by decide) rfl (Nat.le_of_ble_eq_true rfl) ?_
  intro p e s m args below meth c A H0 Q C hret
  unfold wX5_cellAt at h
  refine q_iload_n C 0 rfl rfl dX5_cellAt_0 ?_
  refine q_bipush C (by decide) dX5_cellAt_1 ?_
  refine q_imul C dX5_cellAt_3 ?_
  refine q_bipush C (by decide) dX5_cellAt_4 ?_
  refine q_imul C dX5_cellAt_6 ?_
  refine q_iload_n C 1 rfl rfl dX5_cellAt_7 ?_
  refine q_iadd C dX5_cellAt_8 ?_
  refine q_iconst C dX5_cellAt_9 ?_
  refine q_imul C dX5_cellAt_10 ?_
  refine q_iload_n C 2 rfl rfl dX5_cellAt_11 ?_
  refine q_iadd C dX5_cellAt_12 ?_
  obtain ⟨r1, h⟩ := h
  exact hret (((((a0 * 8) * 8) + a1) * 2) + a2) M _ _ dX5_cellAt_13 r1 h
set_option maxHeartbeats 4000000 in
set_option maxRecDepth 100000 in
theorem mX2_cellOf (l : Launch) (D : va_G) (cy : Nat → ClassId) (kd : gKd) (ln : gLn) (rh : gRh) (post : Int → gM → Prop) (a0 : Int) (a1 : Int) (a2 : Int) (a3 : Int) (a4 : Int) (M : gM) (hk0 : kd a0 = 2) (h : wX2_cellOf kd ln post a0 a1 a2 a3 a4 M) : gMI l D cy yX2_cellOf cX2_cellOf 8 .int 1 22 [.ref (gad a0), .int (gI a1), .int (gI a2), .int (gI a3), .int (gI a4)] kd ln rh M post := by
  refine gMI_of (own := RX2) (by decide) rfl (Nat.le_of_ble_eq_true rfl) ?_
  intro p e s m args below meth c A H0 Q C hret
  have t76 : ∀ (y0 : Int) (y1 : Int) (M : gM), wX2_cellOf_76 kd ln post a0 a1 a2 a3 a4 y0 y1 M → gW p l e (gRm 1 22) s m args below meth c D cy A H0 Q 8 kd ln rh 0 0 M 76 [(4, .int (gI a4))] [.int (gI y0), .int (gI y1)] := by
    intro  y0 y1 M h
    unfold wX2_cellOf_76 at h
    refine q_iload C 0 rfl dX2_cellOf_76 ?_
    refine q_callSI (As := [.int (gI y1), .int (gI y0), .int (gI a4)]) (st := []) C vX2_55 kX5_cellAt ⟨Nat.le_of_ble_eq_true rfl, Nat.le_of_ble_eq_true rfl⟩ ⟨Nat.le_of_ble_eq_true rfl, Nat.le_of_ble_eq_true rfl⟩ rfl rfl (Nat.le_of_ble_eq_true rfl) (mX5_cellAt l D cy kd ln rh _ y1 y0 a4 M  h) dX2_cellOf_78 (fun c31 M30 g32 h => ?_)
    have h := h g32
    exact hret c31 M30 _ _ dX2_cellOf_81 g32 h
  unfold wX2_cellOf at h
  refine q_iload_n C 1 rfl rfl dX2_cellOf_0 ?_
  refine q_aload_n C 0 rfl rfl dX2_cellOf_1 ?_
  refine q_get (v := .int (gI (M a0 3 (-1)))) C fX2_15 hk0 rfl dX2_cellOf_2 (fun g1 => ?_)
  have h := h g1
  refine q_imul C dX2_cellOf_5 ?_
  refine q_iload_n C 2 rfl rfl dX2_cellOf_6 ?_
  refine q_iadd C dX2_cellOf_7 ?_
  refine q_topi (fun v2 ev2 => ?_)
  have h := h v2 ev2
  refine q_istore (lv' := [(5, .int (gI v2)), (0, .ref (gad a0)), (1, .int (gI a1)), (2, .int (gI a2)), (3, .int (gI a3)), (4, .int (gI a4))]) C (by decide) rfl dX2_cellOf_8 ?_
  refine q_aload_n C 1 rfl rfl dX2_cellOf_10 ?_
  obtain ⟨r3, h⟩ := h
  refine q_get (v := .ref (rh a0 5)) C fX2_23 hk0 (if_neg (Int.not_lt.mpr r3)) dX2_cellOf_11 (fun g4 => ?_)
  refine q_iload C 0 rfl dX2_cellOf_14 ?_
  obtain ⟨r5, h⟩ := h
  refine q_iald C hk0 rfl (fun _ q => q) r5 dX2_cellOf_16 (fun g6 => ?_)
  have h := h g6
  refine q_iconst C dX2_cellOf_17 ?_
  refine q_icmp_ne (tgt := 23) C g6 (show rng (-1) by decide) (by decide) dX2_cellOf_18 (fun b7 => ?_) (fun b7 => ?_)
  · have h := h.1 b7
    refine q_aload_n C 1 rfl rfl dX2_cellOf_23 ?_
    obtain ⟨r9, h⟩ := h
    obtain ⟨r10, h⟩ := h
    obtain ⟨r11, h⟩ := h
    refine q_get (v := .ref (rh (M a0 4 (-1)) 4)) C fX2_22 hk0 (if_neg r9) dX2_cellOf_24 (fun g8 => ?_)
    refine q_aload_n C 1 rfl rfl dX2_cellOf_27 ?_
    obtain ⟨r12, h⟩ := h
    refine q_get (v := .ref (rh a0 6)) C fX2_26 hk0 (if_neg (Int.not_lt.mpr r12)) dX2_cellOf_28 (fun g13 => ?_)
    refine q_iload C 0 rfl dX2_cellOf_31 ?_
    obtain ⟨r14, h⟩ := h
    refine q_iald C hk0 rfl (fun _ q => q) r14 dX2_cellOf_33 (fun g15 => ?_)
    have h := h g15
    refine q_iload_n C 4 rfl rfl dX2_cellOf_34 ?_
    refine q_iadd C dX2_cellOf_35 ?_
    obtain ⟨r16, h⟩ := h
    refine q_iald C r10 rfl (fun _ q => q) r16 dX2_cellOf_36 (fun g17 => ?_)
    have h := h g17
    refine q_topi (fun v18 ev18 => ?_)
    have h := h v18 ev18
    have gv18 : rng v18 := by rw [ev18]; exact g17
    refine q_istore (lv' := [(6, .int (gI v18)), (5, .int (gI v2)), (0, .ref (gad a0)), (1, .int (gI a1)), (2, .int (gI a2)), (3, .int (gI a3)), (4, .int (gI a4))]) C (by decide) rfl dX2_cellOf_37 ?_
    refine q_aload_n C 2 rfl rfl dX2_cellOf_39 ?_
    refine q_get (v := .ref (rh (M a0 4 (-1)) 4)) C fX2_22 hk0 (if_neg r9) dX2_cellOf_40 (fun g19 => ?_)
    refine q_aload_n C 2 rfl rfl dX2_cellOf_43 ?_
    obtain ⟨r20, h⟩ := h
    refine q_get (v := .ref (rh a0 7)) C fX2_29 hk0 (if_neg (Int.not_lt.mpr r20)) dX2_cellOf_44 (fun g21 => ?_)
    refine q_iload C 1 rfl dX2_cellOf_47 ?_
    obtain ⟨r22, h⟩ := h
    refine q_iald C hk0 rfl (fun _ q => q) r22 dX2_cellOf_49 (fun g23 => ?_)
    have h := h g23
    refine q_iload_n C 5 rfl rfl dX2_cellOf_50 ?_
    refine q_iadd C dX2_cellOf_51 ?_
    obtain ⟨r24, h⟩ := h
    refine q_iald C r10 rfl (fun _ q => q) r24 dX2_cellOf_52 (fun g25 => ?_)
    have h := h g25
    refine q_topi (fun v26 ev26 => ?_)
    have h := h v26 ev26
    have gv26 : rng v26 := by rw [ev26]; exact g25
    refine q_istore (lv' := [(7, .int (gI v26)), (6, .int (gI v18)), (5, .int (gI v2)), (0, .ref (gad a0)), (1, .int (gI a1)), (2, .int (gI a2)), (3, .int (gI a3)), (4, .int (gI a4))]) C (by decide) rfl dX2_cellOf_53 ?_
    refine q_aload_n C 3 rfl rfl dX2_cellOf_55 ?_
    refine q_get (v := .ref (rh a0 5)) C fX2_23 hk0 (if_neg (Int.not_lt.mpr r3)) dX2_cellOf_56 (fun g27 => ?_)
    refine q_iload C 2 rfl dX2_cellOf_59 ?_
    refine q_iald C hk0 rfl (fun _ q => q) r5 dX2_cellOf_61 (fun g28 => ?_)
    refine q_iload C 1 rfl dX2_cellOf_62 ?_
    refine q_iload C 0 rfl dX2_cellOf_64 ?_
    refine q_icmp_ge (tgt := 74) C gv18 gv26 (by decide) dX2_cellOf_66 (fun b29 => ?_) (fun b29 => ?_)
    · have h := h.1 b29
      refine q_iload C 0 rfl dX2_cellOf_74 ?_
      refine q_lv (lv' := [(4, .int (gI a4))]) [7] rfl ?_
      exact t76  v26 (M a0 5 v2) M h
    · have h := h.2 b29
      refine q_iload C 1 rfl dX2_cellOf_69 ?_
      refine q_goto (tgt := 76) C (by decide) dX2_cellOf_71 ?_
      refine q_lv (lv' := [(4, .int (gI a4))]) [7] rfl ?_
      exact t76  v18 (M a0 5 v2) M h
  · have h := h.2 b7
    refine q_iconst C dX2_cellOf_21 ?_
    exact hret (-1) M _ _ dX2_cellOf_22 (show rng (-1) by decide) h
set_option maxHeartbeats 4000000 in
set_option maxRecDepth 100000 in
theorem mX5_look (l : Launch) (D : va_G) (cy : Nat → ClassId) (kd : gKd) (ln : gLn) (rh : gRh) (post : Int → gM → Prop) (a0 : Int) (a1 : Int) (a2 : Int) (a3 : Int) (a4 : Int) (M : gM) (hk0 : kd a0 = 5) (h : wX5_look kd ln post a0 a1 a2 a3 a4 M) : gMI l D cy yX5_look cX5_look 6 .int 2 49 [.ref (gad a0), .int (gI a1), .int (gI a2), .int (gI a3), .int (gI a4)] kd ln rh M post := by
  refine gMI_of (own := RX5) (by decide) rfl (Nat.le_of_ble_eq_true rfl) ?_
  intro p e s m args below meth c A H0 Q C hret
  have t30 : ∀ (M : gM), wX5_look_30 kd ln post a0 a1 a2 a3 a4  M → gW p l e (gRm 2 49) s m args below meth c D cy A H0 Q 6 kd ln rh 0 0 M 30 [] [] := by
    intro   M h
    unfold wX5_look_30 at h
    refine q_iconst C dX5_look_30 ?_
    refine q_goto (tgt := 41) C (by decide) dX5_look_31 ?_
    exact hret (-1) M _ _ dX5_look_41 (show rng (-1) by decide) h
  unfold wX5_look at h
  refine q_aload_n C 0 rfl rfl dX5_look_0 ?_
  refine q_get (v := gR (M a0 2 (-1))) C fX5_35 hk0 rfl dX5_look_1 (fun g1 => ?_)
  obtain ⟨r2, h⟩ := h
  refine q_nn r2 (by decide) ?_
  refine q_iload_n C 1 rfl rfl dX5_look_4 ?_
  refine q_iload_n C 2 rfl rfl dX5_look_5 ?_
  refine q_iload_n C 3 rfl rfl dX5_look_6 ?_
  refine q_iload C 4 rfl dX5_look_7 ?_
  refine q_callVI (As := [.int (gI a1), .int (gI a2), .int (gI a3), .int (gI a4)]) (st := []) C vX5_76 kX2_cellOf ⟨Nat.le_of_ble_eq_true rfl, Nat.le_of_ble_eq_true rfl⟩ ⟨Nat.le_of_ble_eq_true rfl, Nat.le_of_ble_eq_true rfl⟩ rfl r2 ⟨_, _, rfl⟩ (by decide) rfl (Nat.le_of_ble_eq_true rfl) (mX2_cellOf l D cy kd ln rh _ (M a0 2 (-1)) a1 a2 a3 a4 M r2 h) dX5_look_9 (fun c4 M3 g5 h => ?_)
  have h := h g5
  refine q_istore (lv' := [(5, .int (gI c4)), (0, .ref (gad a0)), (1, .int (gI a1)), (2, .int (gI a2)), (3, .int (gI a3)), (4, .int (gI a4))]) C (by decide) rfl dX5_look_12 ?_
  refine q_iload C 0 rfl dX5_look_14 ?_
  refine q_iconst C dX5_look_16 ?_
  refine q_icmp_eq (tgt := 30) C g5 (show rng (-1) by decide) (by decide) dX5_look_17 (fun b6 => ?_) (fun b6 => ?_)
  · have h := h.1 b6
    refine q_lv (lv' := []) [] rfl ?_
    exact t30  M3 h
  · have h := h.2 b6
    refine q_aload_n C 1 rfl rfl dX5_look_20 ?_
    obtain ⟨r7, h⟩ := h
    refine q_get (v := .ref (rh a0 1)) C fX5_44 hk0 (if_neg (Int.not_lt.mpr r7)) dX5_look_21 (fun g8 => ?_)
    refine q_iload C 0 rfl dX5_look_24 ?_
    obtain ⟨r9, h⟩ := h
    refine q_bald C hk0 rfl (fun _ q => q) r9 dX5_look_26 (fun g10 => ?_)
    have h := h g10
    refine q_if_ge (tgt := 34) C g10 (by decide) dX5_look_27 (fun b11 => ?_) (fun b11 => ?_)
    · have h := h.1 b11
      refine q_aload_n C 1 rfl rfl dX5_look_34 ?_
      refine q_get (v := .ref (rh a0 1)) C fX5_44 hk0 (if_neg (Int.not_lt.mpr r7)) dX5_look_35 (fun g12 => ?_)
      refine q_iload C 0 rfl dX5_look_38 ?_
      refine q_bald C hk0 rfl (fun _ q => q) r9 dX5_look_40 (fun g13 => ?_)
      exact hret (M3 a0 1 c4) M3 _ _ dX5_look_41 g10 h
    · have h := h.2 b11
      refine q_lv (lv' := []) [] rfl ?_
      exact t30  M3 h
set_option maxHeartbeats 4000000 in
set_option maxRecDepth 100000 in
theorem mX4_set (l : Launch) (D : va_G) (cy : Nat → ClassId) (kd : gKd) (ln : gLn) (rh : gRh) (post : gM → Prop) (a0 : Int) (a1 : Int) (a2 : Int) (a3 : Int) (a4 : Int) (a5 : Int) (M : gM) (hk0 : kd a0 = 4) (h : wX4_set kd ln post a0 a1 a2 a3 a4 a5 M) : gMV l D cy yX4_set cX4_set 6 0 0 [.ref (gad a0), .int (gI a1), .int (gI a2), .int (gI a3), .int (gI a4), .int (gI a5)] kd ln rh M post := by
  refine gMV_of (own := RX4) (by decide) rfl (Nat.le_of_ble_eq_true rfl) ?_
  intro p e s m args below meth c A H0 Q C hret
  unfold wX4_set at h
  refine q_aload_n C 0 rfl rfl dX4_set_0 ?_
  refine q_iload_n C 1 rfl rfl dX4_set_1 ?_
  obtain ⟨r1, h⟩ := h
  refine q_put (x := a1) (ty := .int) C fX4_9 hk0 (fun _ _ _ q => by cases q; rfl) (congrArg (fun z => Value.int (gI z)) gu_s) rfl rfl r1 (fun j q => absurd (show (0 : Nat) = j + 3 from q) (by omega)) dX4_set_2 ?_
  refine q_aload_n C 0 rfl rfl dX4_set_5 ?_
  refine q_iload_n C 2 rfl rfl dX4_set_6 ?_
  obtain ⟨r2, h⟩ := h
  refine q_put (x := a2) (ty := .int) C fX4_15 hk0 (fun _ _ _ q => by cases q; rfl) (congrArg (fun z => Value.int (gI z)) gu_s) rfl rfl r2 (fun j q => absurd (show (0 : Nat) = j + 3 from q) (by omega)) dX4_set_7 ?_
  refine q_aload_n C 0 rfl rfl dX4_set_10 ?_
  refine q_iload_n C 3 rfl rfl dX4_set_11 ?_
  obtain ⟨r3, h⟩ := h
  refine q_put (x := a3) (ty := .int) C fX4_18 hk0 (fun _ _ _ q => by cases q; rfl) (congrArg (fun z => Value.int (gI z)) gu_s) rfl rfl r3 (fun j q => absurd (show (0 : Nat) = j + 3 from q) (by omega)) dX4_set_12 ?_
  refine q_aload_n C 0 rfl rfl dX4_set_15 ?_
  refine q_iload C 4 rfl dX4_set_16 ?_
  obtain ⟨r4, h⟩ := h
  refine q_put (x := a4) (ty := .int) C fX4_21 hk0 (fun _ _ _ q => by cases q; rfl) (congrArg (fun z => Value.int (gI z)) gu_s) rfl rfl r4 (fun j q => absurd (show (0 : Nat) = j + 3 from q) (by omega)) dX4_set_18 ?_
  refine q_aload_n C 0 rfl rfl dX4_set_21 ?_
  refine q_iload C 5 rfl dX4_set_22 ?_
  obtain ⟨r5, h⟩ := h
  refine q_put (x := a5) (ty := .int) C fX4_24 hk0 (fun _ _ _ q => by cases q; rfl) (congrArg (fun z => Value.int (gI z)) gu_s) rfl rfl r5 (fun j q => absurd (show (0 : Nat) = j + 3 from q) (by omega)) dX4_set_24 ?_
  exact hret (gu (gu (gu (gu (gu M a0 0 (-1) a1) a0 1 (-1) a2) a0 2 (-1) a3) a0 3 (-1) a4) a0 4 (-1) a5) _ _ dX4_set_27 h
set_option maxHeartbeats 4000000 in
set_option maxRecDepth 100000 in
theorem mX0_blackTargets (l : Launch) (D : va_G) (cy : Nat → ClassId) (kd : gKd) (ln : gLn) (rh : gRh) (post : BitVec 64 → gM → Prop) (a0 : Int) (a1 : Int) (a2 : Int) (a3 : Int) (a4 : Int) (M : gM) (hk0 : kd a0 = 0) (h : wX0_blackTargets kd ln post a0 a1 a2 a3 a4 M) : gML l D cy yX0_blackTargets cX0_blackTargets 5 1 23 [.ref (gad a0), .int (gI a1), .int (gI a2), .int (gI a3), .int (gI a4)] kd ln rh M post := by
  refine gML_of (own := RX0) (by decide) rfl (Nat.le_of_ble_eq_true rfl) ?_
  intro p e s m args below meth c A H0 Q C hret
  unfold wX0_blackTargets at h
  refine q_aload_n C 0 rfl rfl dX0_blackTargets_0 ?_
  obtain ⟨r1, h⟩ := h
  refine q_get (v := .ref (rh a0 6)) C fX0_31 hk0 (if_neg (Int.not_lt.mpr r1)) dX0_blackTargets_1 (fun g2 => ?_)
  refine q_iload_n C 3 rfl rfl dX0_blackTargets_4 ?_
  obtain ⟨r3, h⟩ := h
  refine q_lald C hk0 rfl (fun _ q => q) r3 dX0_blackTargets_5 (fun g4 => ?_)
  have h := h g4
  refine q_aload_n C 0 rfl rfl dX0_blackTargets_6 ?_
  refine q_get (v := .ref (rh a0 6)) C fX0_31 hk0 (if_neg (Int.not_lt.mpr r1)) dX0_blackTargets_7 (fun g5 => ?_)
  refine q_iload_n C 2 rfl rfl dX0_blackTargets_10 ?_
  obtain ⟨r6, h⟩ := h
  refine q_lald C hk0 rfl (fun _ q => q) r6 dX0_blackTargets_11 (fun g7 => ?_)
  have h := h g7
  refine q_ldc2 (b := 18446744073709551615) C nX0_92 (by decide) dX0_blackTargets_12 ?_
  refine q_lxor C dX0_blackTargets_15 ?_
  refine q_land C dX0_blackTargets_16 ?_
  refine q_aload_n C 0 rfl rfl dX0_blackTargets_17 ?_
  refine q_iload_n C 1 rfl rfl dX0_blackTargets_18 ?_
  refine q_iload_n C 2 rfl rfl dX0_blackTargets_19 ?_
  refine q_iload C 4 rfl dX0_blackTargets_20 ?_
  refine q_callVL (As := [.int (gI a1), .int (gI a2), .int (gI a4)]) (st := [.long (gL ((BitVec.ofInt 64 (M a0 6 a3)) &&& ((BitVec.ofInt 64 (M a0 6 a2)) ^^^ (18446744073709551615 : BitVec 64))))]) C vX0_89 kX0_sight ⟨Nat.le_of_ble_eq_true rfl, Nat.le_of_ble_eq_true rfl⟩ ⟨Nat.le_of_ble_eq_true rfl, Nat.le_of_ble_eq_true rfl⟩ rfl hk0 ⟨_, _, rfl⟩ (by decide) rfl (Nat.le_of_ble_eq_true rfl) (mX0_sight l D cy kd ln rh _ a0 a1 a2 a4 M hk0 h) dX0_blackTargets_22 (fun c9 M8 h => ?_)
  refine q_ldc2 (b := 18446744073709551615) C nX0_92 (by decide) dX0_blackTargets_25 ?_
  refine q_lxor C dX0_blackTargets_28 ?_
  refine q_land C dX0_blackTargets_29 ?_
  exact hret (((BitVec.ofInt 64 (M a0 6 a3)) &&& ((BitVec.ofInt 64 (M a0 6 a2)) ^^^ (18446744073709551615 : BitVec 64))) &&& (c9 ^^^ (18446744073709551615 : BitVec 64))) M8 _ _ dX0_blackTargets_30 h
set_option maxHeartbeats 4000000 in
set_option maxRecDepth 100000 in
theorem mX6_lowest (l : Launch) (D : va_G) (cy : Nat → ClassId) (kd : gKd) (ln : gLn) (rh : gRh) (post : Int → gM → Prop) (a0 : BitVec 64) (M : gM)  (h : wX6_lowest kd ln post a0 M) : gMI l D cy yX6_lowest cX6_lowest 2 .int 1 21 [.long (gL a0)] kd ln rh M post := by
  refine gMI_of (own := RX6) (by decide) rfl (Nat.le_of_ble_eq_true rfl) ?_
  intro p e s m args below meth c A H0 Q C hret
  unfold wX6_lowest at h
  refine q_lload_n C 0 rfl rfl dX6_lowest_0 ?_
  refine q_lload_n C 0 rfl rfl dX6_lowest_1 ?_
  refine q_lneg C dX6_lowest_2 ?_
  refine q_land C dX6_lowest_3 ?_
  refine q_lconst (b := 1) C rfl dX6_lowest_4 ?_
  refine q_lsub C dX6_lowest_5 ?_
  refine q_callSI (As := [.long (gL ((a0 &&& (-a0)) - (1 : BitVec 64)))]) (st := []) C vX6_78 kJ13_bitCount_95d88 ⟨Nat.le_of_ble_eq_true rfl, Nat.le_of_ble_eq_true rfl⟩ ⟨Nat.le_of_ble_eq_true rfl, Nat.le_of_ble_eq_true rfl⟩ rfl rfl (Nat.le_of_ble_eq_true rfl) (mJ13_bitCount_95d88 l D cy kd ln rh _ ((a0 &&& (-a0)) - (1 : BitVec 64)) M  h) dX6_lowest_6 (fun c2 M1 g3 h => ?_)
  have h := h g3
  exact hret c2 M1 _ _ dX6_lowest_9 g3 h
set_option maxHeartbeats 4000000 in
set_option maxRecDepth 100000 in
theorem mX6_lookUp (l : Launch) (D : va_G) (cy : Nat → ClassId) (kd : gKd) (ln : gLn) (rh : gRh) (post : Int → gM → Prop) (a0 : Int) (a1 : Int) (a2 : Int) (a3 : Int) (a4 : Int) (a5 : Int) (M : gM) (hk0 : kd a0 = 6) (h : wX6_lookUp kd ln post a0 a1 a2 a3 a4 a5 M) : gMI l D cy yX6_lookUp cX6_lookUp 7 .int 3 74 [.ref (gad a0), .int (gI a1), .int (gI a2), .int (gI a3), .int (gI a4), .int (gI a5)] kd ln rh M post := by
  refine gMI_of (own := RX6) (by decide) rfl (Nat.le_of_ble_eq_true rfl) ?_
  intro p e s m args below meth c A H0 Q C hret
  unfold wX6_lookUp at h
  refine q_aload_n C 0 rfl rfl dX6_lookUp_0 ?_
  refine q_get (v := gR (M a0 1 (-1))) C fX6_52 hk0 rfl dX6_lookUp_1 (fun g1 => ?_)
  obtain ⟨r2, h⟩ := h
  refine q_nn r2 (by decide) ?_
  obtain ⟨r3, h⟩ := h
  refine q_get (v := .ref (rh (M a0 1 (-1)) 5)) C fX6_190 r2 (if_neg (Int.not_lt.mpr r3)) dX6_lookUp_4 (fun g4 => ?_)
  refine q_iload_n C 1 rfl rfl dX6_lookUp_7 ?_
  obtain ⟨r5, h⟩ := h
  refine q_aald (t0 := 5) C r2 rfl (fun _ _ => rfl) rfl r5 dX6_lookUp_8 ?_
  refine q_astoreR (lv' := [(6, gR (M (M a0 1 (-1)) 5 a1)), (0, .ref (gad a0)), (1, .int (gI a1)), (2, .int (gI a2)), (3, .int (gI a3)), (4, .int (gI a4)), (5, .int (gI a5))]) C (by decide) rfl dX6_lookUp_9 ?_
  refine q_aloadR C 0 rfl dX6_lookUp_11 ?_
  refine q_ifnonnull (tgt := 20) C (by decide) dX6_lookUp_13 (fun b6 => ?_) (fun b6 => ?_)
  · have h := h.1 b6
    refine q_aloadR C 0 rfl dX6_lookUp_20 ?_
    obtain ⟨r7, h⟩ := h
    refine q_nn r7 (by decide) ?_
    refine q_iload_n C 3 rfl rfl dX6_lookUp_22 ?_
    refine q_iload_n C 4 rfl rfl dX6_lookUp_23 ?_
    refine q_iload C 5 rfl dX6_lookUp_24 ?_
    refine q_iload C 6 rfl dX6_lookUp_26 ?_
    refine q_callVI (As := [.int (gI a2), .int (gI a3), .int (gI a4), .int (gI a5)]) (st := []) C vX6_102 kX5_look ⟨Nat.le_of_ble_eq_true rfl, Nat.le_of_ble_eq_true rfl⟩ ⟨Nat.le_of_ble_eq_true rfl, Nat.le_of_ble_eq_true rfl⟩ rfl r7 ⟨_, _, rfl⟩ (by decide) rfl (Nat.le_of_ble_eq_true rfl) (mX5_look l D cy kd ln rh _ (M (M a0 1 (-1)) 5 a1) a2 a3 a4 a5 M r7 h) dX6_lookUp_28 (fun c9 M8 g10 h => ?_)
    have h := h g10
    exact hret c9 M8 _ _ dX6_lookUp_31 g10 h
  · have h := h.2 b6
    refine q_iconst C dX6_lookUp_16 ?_
    refine q_goto (tgt := 31) C (by decide) dX6_lookUp_17 ?_
    exact hret (-1) M _ _ dX6_lookUp_31 (show rng (-1) by decide) h
set_option maxHeartbeats 4000000 in
set_option maxRecDepth 100000 in
theorem mX1_add (l : Launch) (D : va_G) (cy : Nat → ClassId) (kd : gKd) (ln : gLn) (rh : gRh) (post : gM → Prop) (a0 : Int) (a1 : Int) (a2 : Int) (a3 : Int) (a4 : Int) (M : gM) (hk0 : kd a0 = 1) (h : wX1_add kd ln post a0 a1 a2 a3 a4 M) : gMV l D cy yX1_add cX1_add 6 0 0 [.ref (gad a0), .int (gI a1), .int (gI a2), .int (gI a3), .int (gI a4)] kd ln rh M post := by
  refine gMV_of (own := RX1) (by decide) rfl (Nat.le_of_ble_eq_true rfl) ?_
  intro p e s m args below meth c A H0 Q C hret
  unfold wX1_add at h
  refine q_aload_n C 0 rfl rfl dX1_add_0 ?_
  refine q_get (v := .int (gI (M a0 0 (-1)))) C fX1_15 hk0 rfl dX1_add_1 (fun g1 => ?_)
  have h := h g1
  refine q_bipush C (by decide) dX1_add_4 ?_
  refine q_icmp_lt (tgt := 10) C g1 (show rng 36 by decide) (by decide) dX1_add_6 (fun b2 => ?_) (fun b2 => ?_)
  · have h := h.1 b2
    refine q_aload_n C 0 rfl rfl dX1_add_10 ?_
    refine q_get (v := .int (gI (M a0 0 (-1)))) C fX1_15 hk0 rfl dX1_add_11 (fun g3 => ?_)
    refine q_iconst C dX1_add_14 ?_
    refine q_imul C dX1_add_15 ?_
    refine q_topi (fun v4 ev4 => ?_)
    have h := h v4 ev4
    refine q_istore (lv' := [(5, .int (gI v4)), (0, .ref (gad a0)), (1, .int (gI a1)), (2, .int (gI a2)), (3, .int (gI a3)), (4, .int (gI a4))]) C (by decide) rfl dX1_add_16 ?_
    refine q_aload_n C 1 rfl rfl dX1_add_18 ?_
    obtain ⟨r5, h⟩ := h
    refine q_get (v := .ref (rh a0 1)) C fX1_11 hk0 (if_neg (Int.not_lt.mpr r5)) dX1_add_19 (fun g6 => ?_)
    refine q_iload C 0 rfl dX1_add_22 ?_
    refine q_iconst C dX1_add_24 ?_
    refine q_iadd C dX1_add_25 ?_
    refine q_iload_n C 2 rfl rfl dX1_add_26 ?_
    obtain ⟨r7, h⟩ := h
    obtain ⟨r8, h⟩ := h
    refine q_iast C hk0 rfl r8 r7 dX1_add_27 ?_
    refine q_aload_n C 1 rfl rfl dX1_add_28 ?_
    refine q_get (v := .ref (rh a0 1)) C fX1_11 hk0 (if_neg (Int.not_lt.mpr r5)) dX1_add_29 (fun g9 => ?_)
    refine q_iload C 0 rfl dX1_add_32 ?_
    refine q_iconst C dX1_add_34 ?_
    refine q_iadd C dX1_add_35 ?_
    refine q_iload_n C 3 rfl rfl dX1_add_36 ?_
    obtain ⟨r10, h⟩ := h
    obtain ⟨r11, h⟩ := h
    refine q_iast C hk0 rfl r11 r10 dX1_add_37 ?_
    refine q_aload_n C 1 rfl rfl dX1_add_38 ?_
    refine q_get (v := .ref (rh a0 1)) C fX1_11 hk0 (if_neg (Int.not_lt.mpr r5)) dX1_add_39 (fun g12 => ?_)
    refine q_iload C 0 rfl dX1_add_42 ?_
    refine q_iconst C dX1_add_44 ?_
    refine q_iadd C dX1_add_45 ?_
    refine q_iload_n C 4 rfl rfl dX1_add_46 ?_
    obtain ⟨r13, h⟩ := h
    obtain ⟨r14, h⟩ := h
    refine q_iast C hk0 rfl r14 r13 dX1_add_47 ?_
    refine q_aload_n C 1 rfl rfl dX1_add_48 ?_
    refine q_get (v := .ref (rh a0 1)) C fX1_11 hk0 (if_neg (Int.not_lt.mpr r5)) dX1_add_49 (fun g15 => ?_)
    refine q_iload C 0 rfl dX1_add_52 ?_
    refine q_iconst C dX1_add_54 ?_
    refine q_iadd C dX1_add_55 ?_
    refine q_iload C 5 rfl dX1_add_56 ?_
    obtain ⟨r16, h⟩ := h
    obtain ⟨r17, h⟩ := h
    refine q_iast C hk0 rfl r17 r16 dX1_add_58 ?_
    refine q_aload_n C 1 rfl rfl dX1_add_59 ?_
    refine q_dup C rfl dX1_add_60 ?_
    refine q_get (v := .int (gI ((gu (gu (gu (gu M a0 1 (v4 + 0) a1) a0 1 (v4 + 1) a2) a0 1 (v4 + 2) a3) a0 1 (v4 + 3) a4) a0 0 (-1)))) C fX1_15 hk0 rfl dX1_add_61 (fun g18 => ?_)
    have h := h g18
    refine q_iconst C dX1_add_64 ?_
    refine q_iadd C dX1_add_65 ?_
    obtain ⟨r19, h⟩ := h
    refine q_put (x := (((gu (gu (gu (gu M a0 1 (v4 + 0) a1) a0 1 (v4 + 1) a2) a0 1 (v4 + 2) a3) a0 1 (v4 + 3) a4) a0 0 (-1)) + 1)) (ty := .int) C fX1_15 hk0 (fun _ _ _ q => by cases q; rfl) (congrArg (fun z => Value.int (gI z)) gu_s) rfl rfl r19 (fun j q => absurd (show (0 : Nat) = j + 3 from q) (by omega)) dX1_add_66 ?_
    exact hret (gu (gu (gu (gu (gu M a0 1 (v4 + 0) a1) a0 1 (v4 + 1) a2) a0 1 (v4 + 2) a3) a0 1 (v4 + 3) a4) a0 0 (-1) (((gu (gu (gu (gu M a0 1 (v4 + 0) a1) a0 1 (v4 + 1) a2) a0 1 (v4 + 2) a3) a0 1 (v4 + 3) a4) a0 0 (-1)) + 1)) _ _ dX1_add_69 h
  · have h := h.2 b2
    exact hret M _ _ dX1_add_9 h
set_option maxHeartbeats 4000000 in
set_option maxRecDepth 100000 in
theorem mX6_gatherBlack (l : Launch) (D : va_G) (cy : Nat → ClassId) (kd : gKd) (ln : gLn) (rh : gRh) (post : gM → Prop) (a0 : Int) (a1 : Int) (a2 : Int) (M : gM) (hk0 : kd a0 = 6) (hk1 : kd a1 = 1) (hk2 : kd a2 = 4) (h : wX6_gatherBlack kd ln post a0 a1 a2 M) : gMV l D cy yX6_gatherBlack cX6_gatherBlack 9 4 100 [.ref (gad a0), .ref (gad a1), .ref (gad a2)] kd ln rh M post := by
  refine gMV_of (own := RX6) (by decide) rfl (Nat.le_of_ble_eq_true rfl) ?_
  intro p e s m args below meth c A H0 Q C hret
  have t73 : ∀ (k27 : BitVec 64 → gM → Prop), (∀ (x5 : BitVec 64), ∀ (M : gM), k27 x5 M → gW p l e (gRm 4 100) s m args below meth c D cy A H0 Q 9 kd ln rh 0 0 M 27 [(0, .ref (gad a0)), (1, .ref (gad a1)), (2, .ref (gad a2)), (5, .long (gL x5))] []) → ∀ (x5 : BitVec 64) (x7 : Int) (y0 : Int) (M : gM), wX6_gatherBlack_73 kd ln post a0 a1 a2 k27 x5 x7 y0 M → gW p l e (gRm 4 100) s m args below meth c D cy A H0 Q 9 kd ln rh 0 0 M 73 [(0, .ref (gad a0)), (1, .ref (gad a1)), (2, .ref (gad a2)), (5, .long (gL x5)), (7, .int (gI x7))] [.int (gI y0)] := by
    intro k27 hk27_ x5 x7 y0 M h
    unfold wX6_gatherBlack_73 at h
    refine q_istore (lv' := [(8, .int (gI y0)), (0, .ref (gad a0)), (1, .ref (gad a1)), (2, .ref (gad a2)), (5, .long (gL x5)), (7, .int (gI x7))]) C (by decide) rfl dX6_gatherBlack_73 ?_
    refine q_aload_n C 2 rfl rfl dX6_gatherBlack_75 ?_
    refine q_aload_n C 3 rfl rfl dX6_gatherBlack_76 ?_
    refine q_get (v := .int (gI (M a2 2 (-1)))) C fX6_226 hk2 rfl dX6_gatherBlack_77 (fun g22 => ?_)
    have h := h g22
    refine q_iload C 5 rfl dX6_gatherBlack_80 ?_
    refine q_iconst C dX6_gatherBlack_82 ?_
    refine q_iload C 0 rfl dX6_gatherBlack_83 ?_
    refine q_callVV (As := [.int (gI (M a2 2 (-1))), .int (gI x7), .int (gI (-1)), .int (gI y0)]) (st := []) C vX6_236 kX1_add ⟨Nat.le_of_ble_eq_true rfl, Nat.le_of_ble_eq_true rfl⟩ ⟨Nat.le_of_ble_eq_true rfl, Nat.le_of_ble_eq_true rfl⟩ rfl hk1 ⟨_, _, rfl⟩ (by decide) rfl (Nat.le_of_ble_eq_true rfl) (mX1_add l D cy kd ln rh _ a1 (M a2 2 (-1)) x7 (-1) y0 M hk1 h) dX6_gatherBlack_85 (fun M23 h => ?_)
    refine q_lload C 4 rfl dX6_gatherBlack_88 ?_
    refine q_lload C 4 rfl dX6_gatherBlack_90 ?_
    refine q_lconst (b := 1) C rfl dX6_gatherBlack_92 ?_
    refine q_lsub C dX6_gatherBlack_93 ?_
    refine q_land C dX6_gatherBlack_94 ?_
    refine q_topl (fun v26 ev26 => ?_)
    have h := h v26 ev26
    refine q_lstore (lv' := [(5, .long (gL v26)), (8, .int (gI y0)), (0, .ref (gad a0)), (1, .ref (gad a1)), (2, .ref (gad a2)), (7, .int (gI x7))]) C (by decide) rfl dX6_gatherBlack_95 ?_
    refine q_goto (tgt := 27) C (by decide) dX6_gatherBlack_97 ?_
    refine q_lv (lv' := [(0, .ref (gad a0)), (1, .ref (gad a1)), (2, .ref (gad a2)), (5, .long (gL v26))]) [2, 3, 4, 0] rfl ?_
    exact hk27_ v26 M23 h
  have t27 : ∀ (n : Nat) (x5 : BitVec 64) (M : gM), wX6_gatherBlack_27 kd ln post a0 a1 a2 n x5 M → gW p l e (gRm 4 100) s m args below meth c D cy A H0 Q 9 kd ln rh 0 0 M 27 [(0, .ref (gad a0)), (1, .ref (gad a1)), (2, .ref (gad a2)), (5, .long (gL x5))] [] := by
    intro n
    induction n with
    | zero => intro x5 M h; exact absurd h (by simp [wX6_gatherBlack_27])
    | succ n ih =>
      intro x5 M h
      have hk27_ := ih
      rw [wX6_gatherBlack_27] at h
      refine q_lload C 3 rfl dX6_gatherBlack_27 ?_
      refine q_lconst (b := 0) C rfl dX6_gatherBlack_29 ?_
      refine q_lcmp C dX6_gatherBlack_30 ?_
      refine q_if_eq (tgt := 100) C (rng_of _) (by decide) dX6_gatherBlack_31 (fun b10 => ?_) (fun b10 => ?_)
      · have h := h.1 b10
        exact hret M _ _ dX6_gatherBlack_100 h
      · have h := h.2 b10
        refine q_lload C 3 rfl dX6_gatherBlack_34 ?_
        refine q_callSI (As := [.long (gL x5)]) (st := []) C vX6_229 kX6_lowest ⟨Nat.le_of_ble_eq_true rfl, Nat.le_of_ble_eq_true rfl⟩ ⟨Nat.le_of_ble_eq_true rfl, Nat.le_of_ble_eq_true rfl⟩ rfl rfl (Nat.le_of_ble_eq_true rfl) (mX6_lowest l D cy kd ln rh _ x5 M  h) dX6_gatherBlack_36 (fun c12 M11 g13 h => ?_)
        have h := h g13
        refine q_istore (lv' := [(7, .int (gI c12)), (0, .ref (gad a0)), (1, .ref (gad a1)), (2, .ref (gad a2)), (5, .long (gL x5))]) C (by decide) rfl dX6_gatherBlack_39 ?_
        refine q_iload C 0 rfl dX6_gatherBlack_41 ?_
        refine q_aload_n C 3 rfl rfl dX6_gatherBlack_43 ?_
        refine q_get (v := .int (gI (M11 a2 3 (-1)))) C fX6_214 hk2 rfl dX6_gatherBlack_44 (fun g14 => ?_)
        have h := h g14
        refine q_icmp_ne (tgt := 54) C g13 g14 (by decide) dX6_gatherBlack_47 (fun b15 => ?_) (fun b15 => ?_)
        · have h := h.1 b15
          refine q_aload_n C 1 rfl rfl dX6_gatherBlack_54 ?_
          refine q_aload_n C 3 rfl rfl dX6_gatherBlack_55 ?_
          refine q_get (v := .int (gI (M11 a2 0 (-1)))) C fX6_223 hk2 rfl dX6_gatherBlack_56 (fun g16 => ?_)
          have h := h g16
          refine q_aload_n C 3 rfl rfl dX6_gatherBlack_59 ?_
          refine q_get (v := .int (gI (M11 a2 1 (-1)))) C fX6_211 hk2 rfl dX6_gatherBlack_60 (fun g17 => ?_)
          have h := h g17
          refine q_iload C 0 rfl dX6_gatherBlack_63 ?_
          refine q_aload_n C 3 rfl rfl dX6_gatherBlack_65 ?_
          refine q_get (v := .int (gI (M11 a2 3 (-1)))) C fX6_214 hk2 rfl dX6_gatherBlack_66 (fun g18 => ?_)
          refine q_iconst C dX6_gatherBlack_69 ?_
          refine q_callVI (As := [.int (gI (M11 a2 0 (-1))), .int (gI (M11 a2 1 (-1))), .int (gI c12), .int (gI (M11 a2 3 (-1))), .int (gI 0)]) (st := []) C vX6_232 kX6_lookUp ⟨Nat.le_of_ble_eq_true rfl, Nat.le_of_ble_eq_true rfl⟩ ⟨Nat.le_of_ble_eq_true rfl, Nat.le_of_ble_eq_true rfl⟩ rfl hk0 ⟨_, _, rfl⟩ (by decide) rfl (Nat.le_of_ble_eq_true rfl) (mX6_lookUp l D cy kd ln rh _ a0 (M11 a2 0 (-1)) (M11 a2 1 (-1)) c12 (M11 a2 3 (-1)) 0 M11 hk0 h) dX6_gatherBlack_70 (fun c20 M19 g21 h => ?_)
          have h := h g21
          refine q_lv (lv' := [(0, .ref (gad a0)), (1, .ref (gad a1)), (2, .ref (gad a2)), (5, .long (gL x5)), (7, .int (gI c12))]) [1, 2, 3, 4, 0] rfl ?_
          exact t73 (wX6_gatherBlack_27 kd ln post a0 a1 a2 n) hk27_ x5 c12 c20 M19 h
        · have h := h.2 b15
          refine q_iconst C dX6_gatherBlack_50 ?_
          refine q_goto (tgt := 73) C (by decide) dX6_gatherBlack_51 ?_
          refine q_lv (lv' := [(0, .ref (gad a0)), (1, .ref (gad a1)), (2, .ref (gad a2)), (5, .long (gL x5)), (7, .int (gI c12))]) [1, 2, 3, 4, 0] rfl ?_
          exact t73 (wX6_gatherBlack_27 kd ln post a0 a1 a2 n) hk27_ x5 c12 (-1) M11 h
  unfold wX6_gatherBlack at h
  refine q_aload_n C 0 rfl rfl dX6_gatherBlack_0 ?_
  refine q_get (v := gR (M a0 1 (-1))) C fX6_52 hk0 rfl dX6_gatherBlack_1 (fun g1 => ?_)
  obtain ⟨r2, h⟩ := h
  refine q_nn r2 (by decide) ?_
  refine q_aload_n C 2 rfl rfl dX6_gatherBlack_4 ?_
  refine q_get (v := .int (gI (M a2 0 (-1)))) C fX6_223 hk2 rfl dX6_gatherBlack_5 (fun g3 => ?_)
  have h := h g3
  refine q_aload_n C 2 rfl rfl dX6_gatherBlack_8 ?_
  refine q_get (v := .int (gI (M a2 1 (-1)))) C fX6_211 hk2 rfl dX6_gatherBlack_9 (fun g4 => ?_)
  have h := h g4
  refine q_aload_n C 2 rfl rfl dX6_gatherBlack_12 ?_
  refine q_get (v := .int (gI (M a2 2 (-1)))) C fX6_226 hk2 rfl dX6_gatherBlack_13 (fun g5 => ?_)
  have h := h g5
  refine q_aload_n C 2 rfl rfl dX6_gatherBlack_16 ?_
  refine q_get (v := .int (gI (M a2 3 (-1)))) C fX6_214 hk2 rfl dX6_gatherBlack_17 (fun g6 => ?_)
  have h := h g6
  refine q_callVL (As := [.int (gI (M a2 0 (-1))), .int (gI (M a2 1 (-1))), .int (gI (M a2 2 (-1))), .int (gI (M a2 3 (-1)))]) (st := []) C vX6_74 kX0_blackTargets ⟨Nat.le_of_ble_eq_true rfl, Nat.le_of_ble_eq_true rfl⟩ ⟨Nat.le_of_ble_eq_true rfl, Nat.le_of_ble_eq_true rfl⟩ rfl r2 ⟨_, _, rfl⟩ (by decide) rfl (Nat.le_of_ble_eq_true rfl) (mX0_blackTargets l D cy kd ln rh _ (M a0 1 (-1)) (M a2 0 (-1)) (M a2 1 (-1)) (M a2 2 (-1)) (M a2 3 (-1)) M r2 h) dX6_gatherBlack_20 (fun c8 M7 h => ?_)
  refine q_lstore_n (lv' := [(3, .long (gL c8)), (0, .ref (gad a0)), (1, .ref (gad a1)), (2, .ref (gad a2))]) C rfl (by decide) rfl dX6_gatherBlack_23 ?_
  refine q_lload_n C 0 rfl rfl dX6_gatherBlack_24 ?_
  refine q_lstore (lv' := [(5, .long (gL c8)), (3, .long (gL c8)), (0, .ref (gad a0)), (1, .ref (gad a1)), (2, .ref (gad a2))]) C (by decide) rfl dX6_gatherBlack_25 ?_
  refine q_lv (lv' := [(0, .ref (gad a0)), (1, .ref (gad a1)), (2, .ref (gad a2)), (5, .long (gL c8))]) [2, 3, 4, 0] rfl ?_
  obtain ⟨j27, h⟩ := h
  exact t27  j27 c8 M7 h
set_option maxHeartbeats 4000000 in
set_option maxRecDepth 100000 in
theorem mX6_bit (l : Launch) (D : va_G) (cy : Nat → ClassId) (kd : gKd) (ln : gLn) (rh : gRh) (post : BitVec 64 → gM → Prop) (a0 : Int) (M : gM)  (h : wX6_bit kd ln post a0 M) : gML l D cy yX6_bit cX6_bit 1 0 0 [.int (gI a0)] kd ln rh M post := by
  refine gML_of (own := RX6) (by decide) rfl (Nat.le_of_ble_eq_true rfl) ?_
  intro p e s m args below meth c A H0 Q C hret
  unfold wX6_bit at h
  refine q_lconst (b := 1) C rfl dX6_bit_0 ?_
  refine q_iload_n C 0 rfl rfl dX6_bit_1 ?_
  refine q_lshl C dX6_bit_2 ?_
  exact hret (glshl (1 : BitVec 64) a0) M _ _ dX6_bit_3 h
set_option maxHeartbeats 4000000 in
set_option maxRecDepth 100000 in
theorem mX0_whiteTargets (l : Launch) (D : va_G) (cy : Nat → ClassId) (kd : gKd) (ln : gLn) (rh : gRh) (post : BitVec 64 → gM → Prop) (a0 : Int) (a1 : Int) (a2 : Int) (a3 : Int) (M : gM) (hk0 : kd a0 = 0) (h : wX0_whiteTargets kd ln post a0 a1 a2 a3 M) : gML l D cy yX0_whiteTargets cX0_whiteTargets 4 1 20 [.ref (gad a0), .int (gI a1), .int (gI a2), .int (gI a3)] kd ln rh M post := by
  refine gML_of (own := RX0) (by decide) rfl (Nat.le_of_ble_eq_true rfl) ?_
  intro p e s m args below meth c A H0 Q C hret
  unfold wX0_whiteTargets at h
  refine q_aload_n C 0 rfl rfl dX0_whiteTargets_0 ?_
  obtain ⟨r1, h⟩ := h
  refine q_get (v := .ref (rh a0 6)) C fX0_31 hk0 (if_neg (Int.not_lt.mpr r1)) dX0_whiteTargets_1 (fun g2 => ?_)
  refine q_iload_n C 1 rfl rfl dX0_whiteTargets_4 ?_
  obtain ⟨r3, h⟩ := h
  refine q_lald C hk0 rfl (fun _ q => q) r3 dX0_whiteTargets_5 (fun g4 => ?_)
  have h := h g4
  refine q_aload_n C 0 rfl rfl dX0_whiteTargets_6 ?_
  refine q_get (v := .ref (rh a0 6)) C fX0_31 hk0 (if_neg (Int.not_lt.mpr r1)) dX0_whiteTargets_7 (fun g5 => ?_)
  refine q_iload_n C 2 rfl rfl dX0_whiteTargets_10 ?_
  obtain ⟨r6, h⟩ := h
  refine q_lald C hk0 rfl (fun _ q => q) r6 dX0_whiteTargets_11 (fun g7 => ?_)
  have h := h g7
  refine q_ldc2 (b := 18446744073709551615) C nX0_92 (by decide) dX0_whiteTargets_12 ?_
  refine q_lxor C dX0_whiteTargets_15 ?_
  refine q_land C dX0_whiteTargets_16 ?_
  refine q_iload_n C 2 rfl rfl dX0_whiteTargets_17 ?_
  refine q_callNL (As := [.int (gI a2)]) (st := [.long (gL ((BitVec.ofInt 64 (M a0 6 a1)) &&& ((BitVec.ofInt 64 (M a0 6 a2)) ^^^ (18446744073709551615 : BitVec 64))))]) C vX0_62 kX6_bit ⟨Nat.le_of_ble_eq_true rfl, Nat.le_of_ble_eq_true rfl⟩ ⟨Nat.le_of_ble_eq_true rfl, Nat.le_of_ble_eq_true rfl⟩ rfl rfl (Nat.le_of_ble_eq_true rfl) (mX6_bit l D cy kd ln rh _ a2 M  h) dX0_whiteTargets_18 (fun c9 M8 h => ?_)
  refine q_ldc2 (b := 18446744073709551615) C nX0_92 (by decide) dX0_whiteTargets_21 ?_
  refine q_lxor C dX0_whiteTargets_24 ?_
  refine q_land C dX0_whiteTargets_25 ?_
  refine q_iload_n C 3 rfl rfl dX0_whiteTargets_26 ?_
  refine q_callNL (As := [.int (gI a3)]) (st := [.long (gL (((BitVec.ofInt 64 (M a0 6 a1)) &&& ((BitVec.ofInt 64 (M a0 6 a2)) ^^^ (18446744073709551615 : BitVec 64))) &&& (c9 ^^^ (18446744073709551615 : BitVec 64))))]) C vX0_62 kX6_bit ⟨Nat.le_of_ble_eq_true rfl, Nat.le_of_ble_eq_true rfl⟩ ⟨Nat.le_of_ble_eq_true rfl, Nat.le_of_ble_eq_true rfl⟩ rfl rfl (Nat.le_of_ble_eq_true rfl) (mX6_bit l D cy kd ln rh _ a3 M8  h) dX0_whiteTargets_27 (fun c12 M11 h => ?_)
  refine q_ldc2 (b := 18446744073709551615) C nX0_92 (by decide) dX0_whiteTargets_30 ?_
  refine q_lxor C dX0_whiteTargets_33 ?_
  refine q_land C dX0_whiteTargets_34 ?_
  exact hret ((((BitVec.ofInt 64 (M a0 6 a1)) &&& ((BitVec.ofInt 64 (M a0 6 a2)) ^^^ (18446744073709551615 : BitVec 64))) &&& (c9 ^^^ (18446744073709551615 : BitVec 64))) &&& (c12 ^^^ (18446744073709551615 : BitVec 64))) M11 _ _ dX0_whiteTargets_35 h
set_option maxHeartbeats 4000000 in
set_option maxRecDepth 100000 in
theorem mX6_gatherKing (l : Launch) (D : va_G) (cy : Nat → ClassId) (kd : gKd) (ln : gLn) (rh : gRh) (post : gM → Prop) (a0 : Int) (a1 : Int) (a2 : Int) (M : gM) (hk0 : kd a0 = 6) (hk1 : kd a1 = 1) (hk2 : kd a2 = 4) (h : wX6_gatherKing kd ln post a0 a1 a2 M) : gMV l D cy yX6_gatherKing cX6_gatherKing 8 4 100 [.ref (gad a0), .ref (gad a1), .ref (gad a2)] kd ln rh M post := by
  refine gMV_of (own := RX6) (by decide) rfl (Nat.le_of_ble_eq_true rfl) ?_
  intro p e s m args below meth c A H0 Q C hret
  have t23 : ∀ (n : Nat) (x5 : BitVec 64) (M : gM), wX6_gatherKing_23 kd ln post a0 a1 a2 n x5 M → gW p l e (gRm 4 100) s m args below meth c D cy A H0 Q 8 kd ln rh 0 0 M 23 [(0, .ref (gad a0)), (1, .ref (gad a1)), (2, .ref (gad a2)), (5, .long (gL x5))] [] := by
    intro n
    induction n with
    | zero => intro x5 M h; exact absurd h (by simp [wX6_gatherKing_23])
    | succ n ih =>
      intro x5 M h
      have hk23_ := ih
      rw [wX6_gatherKing_23] at h
      refine q_lload C 3 rfl dX6_gatherKing_23 ?_
      refine q_lconst (b := 0) C rfl dX6_gatherKing_25 ?_
      refine q_lcmp C dX6_gatherKing_26 ?_
      refine q_if_eq (tgt := 79) C (rng_of _) (by decide) dX6_gatherKing_27 (fun b9 => ?_) (fun b9 => ?_)
      · have h := h.1 b9
        exact hret M _ _ dX6_gatherKing_79 h
      · have h := h.2 b9
        refine q_lload C 3 rfl dX6_gatherKing_30 ?_
        refine q_callSI (As := [.long (gL x5)]) (st := []) C vX6_229 kX6_lowest ⟨Nat.le_of_ble_eq_true rfl, Nat.le_of_ble_eq_true rfl⟩ ⟨Nat.le_of_ble_eq_true rfl, Nat.le_of_ble_eq_true rfl⟩ rfl rfl (Nat.le_of_ble_eq_true rfl) (mX6_lowest l D cy kd ln rh _ x5 M  h) dX6_gatherKing_32 (fun c11 M10 g12 h => ?_)
        have h := h g12
        refine q_istore (lv' := [(7, .int (gI c11)), (0, .ref (gad a0)), (1, .ref (gad a1)), (2, .ref (gad a2)), (5, .long (gL x5))]) C (by decide) rfl dX6_gatherKing_35 ?_
        refine q_aload_n C 2 rfl rfl dX6_gatherKing_37 ?_
        refine q_aload_n C 3 rfl rfl dX6_gatherKing_38 ?_
        refine q_get (v := .int (gI (M10 a2 1 (-1)))) C fX6_211 hk2 rfl dX6_gatherKing_39 (fun g13 => ?_)
        have h := h g13
        refine q_iload C 0 rfl dX6_gatherKing_42 ?_
        refine q_iconst C dX6_gatherKing_44 ?_
        refine q_aload_n C 1 rfl rfl dX6_gatherKing_45 ?_
        refine q_aload_n C 3 rfl rfl dX6_gatherKing_46 ?_
        refine q_get (v := .int (gI (M10 a2 0 (-1)))) C fX6_223 hk2 rfl dX6_gatherKing_47 (fun g14 => ?_)
        have h := h g14
        refine q_iload C 0 rfl dX6_gatherKing_50 ?_
        refine q_aload_n C 3 rfl rfl dX6_gatherKing_52 ?_
        refine q_get (v := .int (gI (M10 a2 2 (-1)))) C fX6_226 hk2 rfl dX6_gatherKing_53 (fun g15 => ?_)
        have h := h g15
        refine q_aload_n C 3 rfl rfl dX6_gatherKing_56 ?_
        refine q_get (v := .int (gI (M10 a2 3 (-1)))) C fX6_214 hk2 rfl dX6_gatherKing_57 (fun g16 => ?_)
        have h := h g16
        refine q_iconst C dX6_gatherKing_60 ?_
        refine q_callVI (As := [.int (gI (M10 a2 0 (-1))), .int (gI c11), .int (gI (M10 a2 2 (-1))), .int (gI (M10 a2 3 (-1))), .int (gI 1)]) (st := [.int (gI (-1)), .int (gI c11), .int (gI (M10 a2 1 (-1))), .ref (gad a1)]) C vX6_232 kX6_lookUp ⟨Nat.le_of_ble_eq_true rfl, Nat.le_of_ble_eq_true rfl⟩ ⟨Nat.le_of_ble_eq_true rfl, Nat.le_of_ble_eq_true rfl⟩ rfl hk0 ⟨_, _, rfl⟩ (by decide) rfl (Nat.le_of_ble_eq_true rfl) (mX6_lookUp l D cy kd ln rh _ a0 (M10 a2 0 (-1)) c11 (M10 a2 2 (-1)) (M10 a2 3 (-1)) 1 M10 hk0 h) dX6_gatherKing_61 (fun c18 M17 g19 h => ?_)
        have h := h g19
        refine q_callVV (As := [.int (gI (M10 a2 1 (-1))), .int (gI c11), .int (gI (-1)), .int (gI c18)]) (st := []) C vX6_236 kX1_add ⟨Nat.le_of_ble_eq_true rfl, Nat.le_of_ble_eq_true rfl⟩ ⟨Nat.le_of_ble_eq_true rfl, Nat.le_of_ble_eq_true rfl⟩ rfl hk1 ⟨_, _, rfl⟩ (by decide) rfl (Nat.le_of_ble_eq_true rfl) (mX1_add l D cy kd ln rh _ a1 (M10 a2 1 (-1)) c11 (-1) c18 M17 hk1 h) dX6_gatherKing_64 (fun M20 h => ?_)
        refine q_lload C 4 rfl dX6_gatherKing_67 ?_
        refine q_lload C 4 rfl dX6_gatherKing_69 ?_
        refine q_lconst (b := 1) C rfl dX6_gatherKing_71 ?_
        refine q_lsub C dX6_gatherKing_72 ?_
        refine q_land C dX6_gatherKing_73 ?_
        refine q_topl (fun v23 ev23 => ?_)
        have h := h v23 ev23
        refine q_lstore (lv' := [(5, .long (gL v23)), (7, .int (gI c11)), (0, .ref (gad a0)), (1, .ref (gad a1)), (2, .ref (gad a2))]) C (by decide) rfl dX6_gatherKing_74 ?_
        refine q_goto (tgt := 23) C (by decide) dX6_gatherKing_76 ?_
        refine q_lv (lv' := [(0, .ref (gad a0)), (1, .ref (gad a1)), (2, .ref (gad a2)), (5, .long (gL v23))]) [2, 3, 4, 0] rfl ?_
        exact hk23_ v23 M20 h
  unfold wX6_gatherKing at h
  refine q_aload_n C 0 rfl rfl dX6_gatherKing_0 ?_
  refine q_get (v := gR (M a0 1 (-1))) C fX6_52 hk0 rfl dX6_gatherKing_1 (fun g1 => ?_)
  obtain ⟨r2, h⟩ := h
  refine q_nn r2 (by decide) ?_
  refine q_aload_n C 2 rfl rfl dX6_gatherKing_4 ?_
  refine q_get (v := .int (gI (M a2 1 (-1)))) C fX6_211 hk2 rfl dX6_gatherKing_5 (fun g3 => ?_)
  have h := h g3
  refine q_aload_n C 2 rfl rfl dX6_gatherKing_8 ?_
  refine q_get (v := .int (gI (M a2 2 (-1)))) C fX6_226 hk2 rfl dX6_gatherKing_9 (fun g4 => ?_)
  have h := h g4
  refine q_aload_n C 2 rfl rfl dX6_gatherKing_12 ?_
  refine q_get (v := .int (gI (M a2 3 (-1)))) C fX6_214 hk2 rfl dX6_gatherKing_13 (fun g5 => ?_)
  have h := h g5
  refine q_callVL (As := [.int (gI (M a2 1 (-1))), .int (gI (M a2 2 (-1))), .int (gI (M a2 3 (-1)))]) (st := []) C vX6_94 kX0_whiteTargets ⟨Nat.le_of_ble_eq_true rfl, Nat.le_of_ble_eq_true rfl⟩ ⟨Nat.le_of_ble_eq_true rfl, Nat.le_of_ble_eq_true rfl⟩ rfl r2 ⟨_, _, rfl⟩ (by decide) rfl (Nat.le_of_ble_eq_true rfl) (mX0_whiteTargets l D cy kd ln rh _ (M a0 1 (-1)) (M a2 1 (-1)) (M a2 2 (-1)) (M a2 3 (-1)) M r2 h) dX6_gatherKing_16 (fun c7 M6 h => ?_)
  refine q_lstore_n (lv' := [(3, .long (gL c7)), (0, .ref (gad a0)), (1, .ref (gad a1)), (2, .ref (gad a2))]) C rfl (by decide) rfl dX6_gatherKing_19 ?_
  refine q_lload_n C 0 rfl rfl dX6_gatherKing_20 ?_
  refine q_lstore (lv' := [(5, .long (gL c7)), (3, .long (gL c7)), (0, .ref (gad a0)), (1, .ref (gad a1)), (2, .ref (gad a2))]) C (by decide) rfl dX6_gatherKing_21 ?_
  refine q_lv (lv' := [(0, .ref (gad a0)), (1, .ref (gad a1)), (2, .ref (gad a2)), (5, .long (gL c7))]) [2, 3, 4, 0] rfl ?_
  obtain ⟨j23, h⟩ := h
  exact t23  j23 c7 M6 h
set_option maxHeartbeats 4000000 in
set_option maxRecDepth 100000 in
theorem mX0_pawnTargets (l : Launch) (D : va_G) (cy : Nat → ClassId) (kd : gKd) (ln : gLn) (rh : gRh) (post : BitVec 64 → gM → Prop) (a0 : Int) (a1 : Int) (a2 : Int) (a3 : Int) (M : gM) (hk0 : kd a0 = 0) (h : wX0_pawnTargets kd ln post a0 a1 a2 a3 M) : gML l D cy yX0_pawnTargets cX0_pawnTargets 7 1 21 [.ref (gad a0), .int (gI a1), .int (gI a2), .int (gI a3)] kd ln rh M post := by
  refine gML_of (own := RX0) (by decide) rfl (Nat.le_of_ble_eq_true rfl) ?_
  intro p e s m args below meth c A H0 Q C hret
  have t67 : ∀ (x4 : Int) (x5 : Int) (y0 : Int) (M : gM), wX0_pawnTargets_67 kd ln post a0 a1 a2 a3 x4 x5 y0 M → gW p l e (gRm 1 21) s m args below meth c D cy A H0 Q 7 kd ln rh 0 0 M 67 [(4, .int (gI x4)), (5, .int (gI x5))] [.int (gI y0)] := by
    intro  x4 x5 y0 M h
    unfold wX0_pawnTargets_67 at h
    refine q_istore (lv' := [(6, .int (gI y0)), (4, .int (gI x4)), (5, .int (gI x5))]) C (by decide) rfl dX0_pawnTargets_67 ?_
    refine q_iload C 0 rfl dX0_pawnTargets_69 ?_
    obtain ⟨r21, h⟩ := h
    refine q_if_eq (tgt := 88) C r21 (by decide) dX0_pawnTargets_71 (fun b22 => ?_) (fun b22 => ?_)
    · have h := h.1 b22
      refine q_iload C 1 rfl dX0_pawnTargets_88 ?_
      refine q_callNL (As := [.int (gI x4)]) (st := []) C vX0_62 kX6_bit ⟨Nat.le_of_ble_eq_true rfl, Nat.le_of_ble_eq_true rfl⟩ ⟨Nat.le_of_ble_eq_true rfl, Nat.le_of_ble_eq_true rfl⟩ rfl rfl (Nat.le_of_ble_eq_true rfl) (mX6_bit l D cy kd ln rh _ x4 M  h) dX0_pawnTargets_90 (fun c24 M23 h => ?_)
      exact hret c24 M23 _ _ dX0_pawnTargets_93 h
    · have h := h.2 b22
      refine q_iload C 1 rfl dX0_pawnTargets_74 ?_
      refine q_callNL (As := [.int (gI x4)]) (st := []) C vX0_62 kX6_bit ⟨Nat.le_of_ble_eq_true rfl, Nat.le_of_ble_eq_true rfl⟩ ⟨Nat.le_of_ble_eq_true rfl, Nat.le_of_ble_eq_true rfl⟩ rfl rfl (Nat.le_of_ble_eq_true rfl) (mX6_bit l D cy kd ln rh _ x4 M  h) dX0_pawnTargets_76 (fun c27 M26 h => ?_)
      refine q_iload C 2 rfl dX0_pawnTargets_79 ?_
      refine q_callNL (As := [.int (gI x5)]) (st := [.long (gL c27)]) C vX0_62 kX6_bit ⟨Nat.le_of_ble_eq_true rfl, Nat.le_of_ble_eq_true rfl⟩ ⟨Nat.le_of_ble_eq_true rfl, Nat.le_of_ble_eq_true rfl⟩ rfl rfl (Nat.le_of_ble_eq_true rfl) (mX6_bit l D cy kd ln rh _ x5 M26  h) dX0_pawnTargets_81 (fun c30 M29 h => ?_)
      refine q_lor C dX0_pawnTargets_84 ?_
      refine q_goto (tgt := 93) C (by decide) dX0_pawnTargets_85 ?_
      exact hret (c27 ||| c30) M29 _ _ dX0_pawnTargets_93 h
  have t66 : ∀ (x4 : Int) (x5 : Int) (M : gM), wX0_pawnTargets_66 kd ln post a0 a1 a2 a3 x4 x5 M → gW p l e (gRm 1 21) s m args below meth c D cy A H0 Q 7 kd ln rh 0 0 M 66 [(4, .int (gI x4)), (5, .int (gI x5))] [] := by
    intro  x4 x5 M h
    unfold wX0_pawnTargets_66 at h
    refine q_iconst C dX0_pawnTargets_66 ?_
    exact t67  x4 x5 0 M h
  unfold wX0_pawnTargets at h
  refine q_iload_n C 3 rfl rfl dX0_pawnTargets_0 ?_
  refine q_aload_n C 0 rfl rfl dX0_pawnTargets_1 ?_
  refine q_get (v := .int (gI (M a0 0 (-1)))) C fX0_17 hk0 rfl dX0_pawnTargets_2 (fun g1 => ?_)
  have h := h g1
  refine q_iadd C dX0_pawnTargets_5 ?_
  refine q_topi (fun v2 ev2 => ?_)
  have h := h v2 ev2
  refine q_istore (lv' := [(4, .int (gI v2)), (0, .ref (gad a0)), (1, .int (gI a1)), (2, .int (gI a2)), (3, .int (gI a3))]) C (by decide) rfl dX0_pawnTargets_6 ?_
  refine q_iload C 0 rfl dX0_pawnTargets_8 ?_
  refine q_iload_n C 2 rfl rfl dX0_pawnTargets_10 ?_
  obtain ⟨r3, h⟩ := h
  obtain ⟨r4, h⟩ := h
  refine q_icmp_eq (tgt := 20) C r3 r4 (by decide) dX0_pawnTargets_11 (fun b5 => ?_) (fun b5 => ?_)
  · have h := h.1 b5
    refine q_lconst (b := 0) C rfl dX0_pawnTargets_20 ?_
    exact hret (0 : BitVec 64) M _ _ dX0_pawnTargets_21 h
  · have h := h.2 b5
    refine q_iload C 0 rfl dX0_pawnTargets_14 ?_
    refine q_iload_n C 3 rfl rfl dX0_pawnTargets_16 ?_
    obtain ⟨r6, h⟩ := h
    refine q_icmp_ne (tgt := 22) C r3 r6 (by decide) dX0_pawnTargets_17 (fun b7 => ?_) (fun b7 => ?_)
    · have h := h.1 b7
      refine q_iload C 0 rfl dX0_pawnTargets_22 ?_
      refine q_aload_n C 1 rfl rfl dX0_pawnTargets_24 ?_
      refine q_get (v := .int (gI (M a0 0 (-1)))) C fX0_17 hk0 rfl dX0_pawnTargets_25 (fun g8 => ?_)
      refine q_iadd C dX0_pawnTargets_28 ?_
      refine q_topi (fun v9 ev9 => ?_)
      have h := h v9 ev9
      refine q_istore (lv' := [(5, .int (gI v9)), (4, .int (gI v2)), (0, .ref (gad a0)), (1, .int (gI a1)), (2, .int (gI a2)), (3, .int (gI a3))]) C (by decide) rfl dX0_pawnTargets_29 ?_
      refine q_iload_n C 5 rfl rfl dX0_pawnTargets_31 ?_
      refine q_iconst C dX0_pawnTargets_32 ?_
      refine q_aload_n C 2 rfl rfl dX0_pawnTargets_33 ?_
      refine q_get (v := .int (gI (M a0 0 (-1)))) C fX0_17 hk0 rfl dX0_pawnTargets_34 (fun g10 => ?_)
      refine q_imul C dX0_pawnTargets_37 ?_
      obtain ⟨r11, h⟩ := h
      obtain ⟨r12, h⟩ := h
      refine q_icmp_ge (tgt := 66) C r11 r12 (by decide) dX0_pawnTargets_38 (fun b13 => ?_) (fun b13 => ?_)
      · have h := h.1 b13
        refine q_lv (lv' := [(4, .int (gI v2)), (5, .int (gI v9))]) [1, 0] rfl ?_
        exact t66  v2 v9 M h
      · have h := h.2 b13
        refine q_aload_n C 2 rfl rfl dX0_pawnTargets_41 ?_
        refine q_iload C 0 rfl dX0_pawnTargets_42 ?_
        refine q_callVI (As := [.int (gI v9)]) (st := []) C vX0_82 kX0_isLastRank ⟨Nat.le_of_ble_eq_true rfl, Nat.le_of_ble_eq_true rfl⟩ ⟨Nat.le_of_ble_eq_true rfl, Nat.le_of_ble_eq_true rfl⟩ rfl hk0 ⟨_, _, rfl⟩ (by decide) rfl (Nat.le_of_ble_eq_true rfl) (mX0_isLastRank l D cy kd ln rh _ a0 v9 M hk0 h) dX0_pawnTargets_44 (fun c15 M14 g16 h => ?_)
        have h := h g16
        refine q_if_ne (tgt := 66) C g16 (by decide) dX0_pawnTargets_47 (fun b17 => ?_) (fun b17 => ?_)
        · have h := h.1 b17
          refine q_lv (lv' := [(4, .int (gI v2)), (5, .int (gI v9))]) [1, 0] rfl ?_
          exact t66  v2 v9 M14 h
        · have h := h.2 b17
          refine q_iload C 0 rfl dX0_pawnTargets_50 ?_
          refine q_iload_n C 3 rfl rfl dX0_pawnTargets_52 ?_
          obtain ⟨r18, h⟩ := h
          refine q_icmp_eq (tgt := 66) C r18 r4 (by decide) dX0_pawnTargets_53 (fun b19 => ?_) (fun b19 => ?_)
          · have h := h.1 b19
            refine q_lv (lv' := [(4, .int (gI v2)), (5, .int (gI v9))]) [1, 0] rfl ?_
            exact t66  v2 v9 M14 h
          · have h := h.2 b19
            refine q_iload C 0 rfl dX0_pawnTargets_56 ?_
            refine q_iload_n C 4 rfl rfl dX0_pawnTargets_58 ?_
            refine q_icmp_eq (tgt := 66) C r18 r6 (by decide) dX0_pawnTargets_59 (fun b20 => ?_) (fun b20 => ?_)
            · have h := h.1 b20
              refine q_lv (lv' := [(4, .int (gI v2)), (5, .int (gI v9))]) [1, 0] rfl ?_
              exact t66  v2 v9 M14 h
            · have h := h.2 b20
              refine q_iconst C dX0_pawnTargets_62 ?_
              refine q_goto (tgt := 67) C (by decide) dX0_pawnTargets_63 ?_
              refine q_lv (lv' := [(4, .int (gI v2)), (5, .int (gI v9))]) [1, 0] rfl ?_
              exact t67  v2 v9 1 M14 h
    · have h := h.2 b7
      refine q_lconst (b := 0) C rfl dX0_pawnTargets_20 ?_
      exact hret (0 : BitVec 64) M _ _ dX0_pawnTargets_21 h
set_option maxHeartbeats 4000000 in
set_option maxRecDepth 100000 in
theorem mX0_glides (l : Launch) (D : va_G) (cy : Nat → ClassId) (kd : gKd) (ln : gLn) (rh : gRh) (post : BitVec 64 → gM → Prop) (a0 : Int) (a1 : Int) (a2 : Int) (a3 : Int) (a4 : Int) (M : gM) (hk0 : kd a0 = 0) (h : wX0_glides kd ln post a0 a1 a2 a3 a4 M) : gML l D cy yX0_glides cX0_glides 5 1 23 [.ref (gad a0), .int (gI a1), .int (gI a2), .int (gI a3), .int (gI a4)] kd ln rh M post := by
  refine gML_of (own := RX0) (by decide) rfl (Nat.le_of_ble_eq_true rfl) ?_
  intro p e s m args below meth c A H0 Q C hret
  unfold wX0_glides at h
  refine q_aload_n C 0 rfl rfl dX0_glides_0 ?_
  refine q_iload_n C 1 rfl rfl dX0_glides_1 ?_
  refine q_iload_n C 2 rfl rfl dX0_glides_2 ?_
  refine q_iload C 4 rfl dX0_glides_3 ?_
  refine q_callVL (As := [.int (gI a1), .int (gI a2), .int (gI a4)]) (st := []) C vX0_89 kX0_sight ⟨Nat.le_of_ble_eq_true rfl, Nat.le_of_ble_eq_true rfl⟩ ⟨Nat.le_of_ble_eq_true rfl, Nat.le_of_ble_eq_true rfl⟩ rfl hk0 ⟨_, _, rfl⟩ (by decide) rfl (Nat.le_of_ble_eq_true rfl) (mX0_sight l D cy kd ln rh _ a0 a1 a2 a4 M hk0 h) dX0_glides_5 (fun c2 M1 h => ?_)
  refine q_aload_n C 0 rfl rfl dX0_glides_8 ?_
  obtain ⟨r4, h⟩ := h
  refine q_get (v := .ref (rh a0 8)) C fX0_40 hk0 (if_neg (Int.not_lt.mpr r4)) dX0_glides_9 (fun g5 => ?_)
  refine q_iload C 4 rfl dX0_glides_12 ?_
  refine q_aload_n C 0 rfl rfl dX0_glides_14 ?_
  refine q_get (v := .int (gI (M1 a0 1 (-1)))) C fX0_21 hk0 rfl dX0_glides_15 (fun g6 => ?_)
  have h := h g6
  refine q_imul C dX0_glides_18 ?_
  refine q_iload_n C 3 rfl rfl dX0_glides_19 ?_
  refine q_iadd C dX0_glides_20 ?_
  obtain ⟨r7, h⟩ := h
  refine q_lald C hk0 rfl (fun _ q => q) r7 dX0_glides_21 (fun g8 => ?_)
  have h := h g8
  refine q_ldc2 (b := 18446744073709551615) C nX0_92 (by decide) dX0_glides_22 ?_
  refine q_lxor C dX0_glides_25 ?_
  refine q_land C dX0_glides_26 ?_
  refine q_iload_n C 2 rfl rfl dX0_glides_27 ?_
  refine q_callNL (As := [.int (gI a2)]) (st := [.long (gL (c2 &&& ((BitVec.ofInt 64 (M1 a0 8 ((a4 * (M1 a0 1 (-1))) + a3))) ^^^ (18446744073709551615 : BitVec 64))))]) C vX0_62 kX6_bit ⟨Nat.le_of_ble_eq_true rfl, Nat.le_of_ble_eq_true rfl⟩ ⟨Nat.le_of_ble_eq_true rfl, Nat.le_of_ble_eq_true rfl⟩ rfl rfl (Nat.le_of_ble_eq_true rfl) (mX6_bit l D cy kd ln rh _ a2 M1  h) dX0_glides_28 (fun c10 M9 h => ?_)
  refine q_ldc2 (b := 18446744073709551615) C nX0_92 (by decide) dX0_glides_31 ?_
  refine q_lxor C dX0_glides_34 ?_
  refine q_land C dX0_glides_35 ?_
  refine q_iload_n C 3 rfl rfl dX0_glides_36 ?_
  refine q_callNL (As := [.int (gI a3)]) (st := [.long (gL ((c2 &&& ((BitVec.ofInt 64 (M1 a0 8 ((a4 * (M1 a0 1 (-1))) + a3))) ^^^ (18446744073709551615 : BitVec 64))) &&& (c10 ^^^ (18446744073709551615 : BitVec 64))))]) C vX0_62 kX6_bit ⟨Nat.le_of_ble_eq_true rfl, Nat.le_of_ble_eq_true rfl⟩ ⟨Nat.le_of_ble_eq_true rfl, Nat.le_of_ble_eq_true rfl⟩ rfl rfl (Nat.le_of_ble_eq_true rfl) (mX6_bit l D cy kd ln rh _ a3 M9  h) dX0_glides_37 (fun c13 M12 h => ?_)
  refine q_ldc2 (b := 18446744073709551615) C nX0_92 (by decide) dX0_glides_40 ?_
  refine q_lxor C dX0_glides_43 ?_
  refine q_land C dX0_glides_44 ?_
  exact hret (((c2 &&& ((BitVec.ofInt 64 (M1 a0 8 ((a4 * (M1 a0 1 (-1))) + a3))) ^^^ (18446744073709551615 : BitVec 64))) &&& (c10 ^^^ (18446744073709551615 : BitVec 64))) &&& (c13 ^^^ (18446744073709551615 : BitVec 64))) M12 _ _ dX0_glides_45 h
set_option maxHeartbeats 4000000 in
set_option maxRecDepth 100000 in
theorem mX0_manTargets (l : Launch) (D : va_G) (cy : Nat → ClassId) (kd : gKd) (ln : gLn) (rh : gRh) (post : BitVec 64 → gM → Prop) (a0 : Int) (a1 : Int) (a2 : Int) (a3 : Int) (a4 : Int) (M : gM) (hk0 : kd a0 = 0) (h : wX0_manTargets kd ln post a0 a1 a2 a3 a4 M) : gML l D cy yX0_manTargets cX0_manTargets 5 2 47 [.ref (gad a0), .int (gI a1), .int (gI a2), .int (gI a3), .int (gI a4)] kd ln rh M post := by
  refine gML_of (own := RX0) (by decide) rfl (Nat.le_of_ble_eq_true rfl) ?_
  intro p e s m args below meth c A H0 Q C hret
  unfold wX0_manTargets at h
  refine q_iload_n C 1 rfl rfl dX0_manTargets_0 ?_
  refine q_iconst C dX0_manTargets_1 ?_
  obtain ⟨r1, h⟩ := h
  refine q_icmp_ne (tgt := 16) C r1 (show rng 2 by decide) (by decide) dX0_manTargets_2 (fun b2 => ?_) (fun b2 => ?_)
  · have h := h.1 b2
    refine q_aload_n C 0 rfl rfl dX0_manTargets_16 ?_
    refine q_iload_n C 1 rfl rfl dX0_manTargets_17 ?_
    refine q_iload_n C 2 rfl rfl dX0_manTargets_18 ?_
    refine q_iload_n C 3 rfl rfl dX0_manTargets_19 ?_
    refine q_iload C 4 rfl dX0_manTargets_20 ?_
    refine q_callVL (As := [.int (gI a1), .int (gI a2), .int (gI a3), .int (gI a4)]) (st := []) C vX0_97 kX0_glides ⟨Nat.le_of_ble_eq_true rfl, Nat.le_of_ble_eq_true rfl⟩ ⟨Nat.le_of_ble_eq_true rfl, Nat.le_of_ble_eq_true rfl⟩ rfl hk0 ⟨_, _, rfl⟩ (by decide) rfl (Nat.le_of_ble_eq_true rfl) (mX0_glides l D cy kd ln rh _ a0 a1 a2 a3 a4 M hk0 h) dX0_manTargets_22 (fun c4 M3 h => ?_)
    exact hret c4 M3 _ _ dX0_manTargets_25 h
  · have h := h.2 b2
    refine q_aload_n C 0 rfl rfl dX0_manTargets_5 ?_
    refine q_iload_n C 2 rfl rfl dX0_manTargets_6 ?_
    refine q_iload_n C 3 rfl rfl dX0_manTargets_7 ?_
    refine q_iload C 4 rfl dX0_manTargets_8 ?_
    refine q_callVL (As := [.int (gI a2), .int (gI a3), .int (gI a4)]) (st := []) C vX0_94 kX0_pawnTargets ⟨Nat.le_of_ble_eq_true rfl, Nat.le_of_ble_eq_true rfl⟩ ⟨Nat.le_of_ble_eq_true rfl, Nat.le_of_ble_eq_true rfl⟩ rfl hk0 ⟨_, _, rfl⟩ (by decide) rfl (Nat.le_of_ble_eq_true rfl) (mX0_pawnTargets l D cy kd ln rh _ a0 a2 a3 a4 M hk0 h) dX0_manTargets_10 (fun c7 M6 h => ?_)
    refine q_goto (tgt := 25) C (by decide) dX0_manTargets_13 ?_
    exact hret c7 M6 _ _ dX0_manTargets_25 h
