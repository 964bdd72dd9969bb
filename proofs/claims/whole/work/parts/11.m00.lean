set_option maxHeartbeats 4000000 in
set_option maxRecDepth 100000 in
theorem mJ13_bitCount_95d88 (l : Launch) (D : va_G) (cy : Nat → ClassId) (kd : gKd) (ln : gLn) (rh : gRh) (post : Int → gM → Prop) (a0 : BitVec 64) (M : gM)  (h : wJ13_bitCount_95d88 kd ln post a0 M) : gMI l D cy yJ13_bitCount_95d88 cJ13_bitCount_95d88 2 .int 0 0 [.long (gL a0)] kd ln rh M post := by
  refine gMI_of (own := RJ13) (by decide) rfl (Nat.le_of_ble_eq_true rfl) ?_
  intro p e s m args below meth c A H0 Q C hret
  unfold wJ13_bitCount_95d88 at h
  refine q_lload_n C 0 rfl rfl dJ13_bitCount_95d88_0 ?_
  refine q_lload_n C 0 rfl rfl dJ13_bitCount_95d88_1 ?_
  refine q_iconst C dJ13_bitCount_95d88_2 ?_
  refine q_lushr C dJ13_bitCount_95d88_3 ?_
  refine q_ldc2 (b := 6148914691236517205) C nJ13_314 (by decide) dJ13_bitCount_95d88_4 ?_
  refine q_land C dJ13_bitCount_95d88_7 ?_
  refine q_lsub C dJ13_bitCount_95d88_8 ?_
  refine q_topl (fun v1 ev1 => ?_)
  have h := h v1 ev1
  refine q_lstore_n (lv' := [(0, .long (gL v1))]) C rfl (by decide) rfl dJ13_bitCount_95d88_9 ?_
  refine q_lload_n C 0 rfl rfl dJ13_bitCount_95d88_10 ?_
  refine q_ldc2 (b := 3689348814741910323) C nJ13_316 (by decide) dJ13_bitCount_95d88_11 ?_
  refine q_land C dJ13_bitCount_95d88_14 ?_
  refine q_lload_n C 0 rfl rfl dJ13_bitCount_95d88_15 ?_
  refine q_iconst C dJ13_bitCount_95d88_16 ?_
  refine q_lushr C dJ13_bitCount_95d88_17 ?_
  refine q_ldc2 (b := 3689348814741910323) C nJ13_316 (by decide) dJ13_bitCount_95d88_18 ?_
  refine q_land C dJ13_bitCount_95d88_21 ?_
  refine q_ladd C dJ13_bitCount_95d88_22 ?_
  refine q_topl (fun v2 ev2 => ?_)
  have h := h v2 ev2
  refine q_lstore_n (lv' := [(0, .long (gL v2))]) C rfl (by decide) rfl dJ13_bitCount_95d88_23 ?_
  refine q_lload_n C 0 rfl rfl dJ13_bitCount_95d88_24 ?_
  refine q_lload_n C 0 rfl rfl dJ13_bitCount_95d88_25 ?_
  refine q_iconst C dJ13_bitCount_95d88_26 ?_
  refine q_lushr C dJ13_bitCount_95d88_27 ?_
  refine q_ladd C dJ13_bitCount_95d88_28 ?_
  refine q_ldc2 (b := 1085102592571150095) C nJ13_318 (by decide) dJ13_bitCount_95d88_29 ?_
  refine q_land C dJ13_bitCount_95d88_32 ?_
  refine q_topl (fun v3 ev3 => ?_)
  have h := h v3 ev3
  refine q_lstore_n (lv' := [(0, .long (gL v3))]) C rfl (by decide) rfl dJ13_bitCount_95d88_33 ?_
  refine q_lload_n C 0 rfl rfl dJ13_bitCount_95d88_34 ?_
  refine q_lload_n C 0 rfl rfl dJ13_bitCount_95d88_35 ?_
  refine q_bipush C (by decide) dJ13_bitCount_95d88_36 ?_
  refine q_lushr C dJ13_bitCount_95d88_38 ?_
  refine q_ladd C dJ13_bitCount_95d88_39 ?_
  refine q_topl (fun v4 ev4 => ?_)
  have h := h v4 ev4
  refine q_lstore_n (lv' := [(0, .long (gL v4))]) C rfl (by decide) rfl dJ13_bitCount_95d88_40 ?_
  refine q_lload_n C 0 rfl rfl dJ13_bitCount_95d88_41 ?_
  refine q_lload_n C 0 rfl rfl dJ13_bitCount_95d88_42 ?_
  refine q_bipush C (by decide) dJ13_bitCount_95d88_43 ?_
  refine q_lushr C dJ13_bitCount_95d88_45 ?_
  refine q_ladd C dJ13_bitCount_95d88_46 ?_
  refine q_topl (fun v5 ev5 => ?_)
  have h := h v5 ev5
  refine q_lstore_n (lv' := [(0, .long (gL v5))]) C rfl (by decide) rfl dJ13_bitCount_95d88_47 ?_
  refine q_lload_n C 0 rfl rfl dJ13_bitCount_95d88_48 ?_
  refine q_lload_n C 0 rfl rfl dJ13_bitCount_95d88_49 ?_
  refine q_bipush C (by decide) dJ13_bitCount_95d88_50 ?_
  refine q_lushr C dJ13_bitCount_95d88_52 ?_
  refine q_ladd C dJ13_bitCount_95d88_53 ?_
  refine q_topl (fun v6 ev6 => ?_)
  have h := h v6 ev6
  refine q_lstore_n (lv' := [(0, .long (gL v6))]) C rfl (by decide) rfl dJ13_bitCount_95d88_54 ?_
  refine q_lload_n C 0 rfl rfl dJ13_bitCount_95d88_55 ?_
  refine q_l2i C dJ13_bitCount_95d88_56 ?_
  refine q_bipush C (by decide) dJ13_bitCount_95d88_57 ?_
  refine q_iand C dJ13_bitCount_95d88_59 ?_
  obtain ⟨r7, h⟩ := h
  exact hret (giand (gl2i v6) 127) M _ _ dJ13_bitCount_95d88_60 r7 h
set_option maxHeartbeats 4000000 in
set_option maxRecDepth 100000 in
theorem mJ7_fill_031fb (l : Launch) (D : va_G) (cy : Nat → ClassId) (kd : gKd) (ln : gLn) (rh : gRh) (post : gM → Prop) (a0 : Int) (k0_ : Nat) (a1 : Int) (M : gM) (hp0 : gak (kd a0) k0_ = 9) (hq0 : ∀ x, rng x → gRg (kd a0) k0_ x) (h : wJ7_fill_031fb kd ln post a0 k0_ a1 M) : gMV l D cy yJ7_fill_031fb cJ7_fill_031fb 4 0 0 [.ref (rh a0 k0_), .int (gI a1)] kd ln rh M post := by
  refine gMV_of (own := RJ7) (by decide) rfl (Nat.le_of_ble_eq_true rfl) ?_
  intro p e s m args below meth c A H0 Q C hret
  have t5 : ∀ (n : Nat) (x2 : Int) (x3 : Int) (M : gM), wJ7_fill_031fb_5 kd ln post a0 k0_ a1 n x2 x3 M → gW p l e (gRm 0 0) s m args below meth c D cy A H0 Q 4 kd ln rh 0 0 M 5 [(0, .ref (rh a0 k0_)), (1, .int (gI a1)), (2, .int (gI x2)), (3, .int (gI x3))] [] := by
    intro n
    induction n with
    | zero => intro x2 x3 M h; exact absurd h (by simp [wJ7_fill_031fb_5])
    | succ n ih =>
      intro x2 x3 M h
      have hk5_ := ih
      rw [wJ7_fill_031fb_5] at h
      refine q_iload_n C 2 rfl rfl dJ7_fill_031fb_5 ?_
      refine q_iload_n C 3 rfl rfl dJ7_fill_031fb_6 ?_
      obtain ⟨r5, h⟩ := h
      obtain ⟨r6, h⟩ := h
      refine q_icmp_ge (tgt := 20) C r5 r6 (by decide) dJ7_fill_031fb_7 (fun b7 => ?_) (fun b7 => ?_)
      · have h := h.1 b7
        exact hret M _ _ dJ7_fill_031fb_20 h
      · have h := h.2 b7
        refine q_aload_n C 0 rfl rfl dJ7_fill_031fb_10 ?_
        refine q_iload_n C 2 rfl rfl dJ7_fill_031fb_11 ?_
        refine q_iload_n C 1 rfl rfl dJ7_fill_031fb_12 ?_
        obtain ⟨r8, h⟩ := h
        obtain ⟨r9, h⟩ := h
        refine q_bast C rfl hp0 (hq0 _ (rng8 r9)) r9 r8 dJ7_fill_031fb_13 ?_
        refine q_iinc (lv' := [(2, .int (gI (x2 + 1))), (0, .ref (rh a0 k0_)), (1, .int (gI a1)), (3, .int (gI x3))]) C 2 rfl (by decide) rfl dJ7_fill_031fb_14 ?_
        refine q_goto (tgt := 5) C (by decide) dJ7_fill_031fb_17 ?_
        refine q_lv (lv' := [(0, .ref (rh a0 k0_)), (1, .int (gI a1)), (2, .int (gI (x2 + 1))), (3, .int (gI x3))]) [1, 2, 0, 3] rfl ?_
        exact hk5_ (x2 + 1) x3 (gu M a0 k0_ x2 a1) h
  unfold wJ7_fill_031fb at h
  refine q_iconst C dJ7_fill_031fb_0 ?_
  refine q_istore_n (lv' := [(2, .int (gI 0)), (0, .ref (rh a0 k0_)), (1, .int (gI a1))]) C rfl (by decide) rfl dJ7_fill_031fb_1 ?_
  refine q_aload_n C 1 rfl rfl dJ7_fill_031fb_2 ?_
  obtain ⟨r1, h⟩ := h
  refine q_alen (t0 := 1) C rfl (by rw [hp0]; rfl) r1 dJ7_fill_031fb_3 (fun g2 => ?_)
  have h := h g2
  have g3 : rng (ln a0 k0_) := ⟨by omega, by omega⟩
  refine q_topi (fun v4 ev4 => ?_)
  have h := h v4 ev4
  have gv4 : rng v4 := by rw [ev4]; exact g3
  refine q_istore_n (lv' := [(3, .int (gI v4)), (2, .int (gI 0)), (0, .ref (rh a0 k0_)), (1, .int (gI a1))]) C rfl (by decide) rfl dJ7_fill_031fb_4 ?_
  refine q_lv (lv' := [(0, .ref (rh a0 k0_)), (1, .int (gI a1)), (2, .int (gI 0)), (3, .int (gI v4))]) [2, 3, 1, 0] rfl ?_
  obtain ⟨j5, h⟩ := h
  exact t5  j5 0 v4 M h
set_option maxHeartbeats 4000000 in
set_option maxRecDepth 100000 in
theorem mJ7_fill_53178 (l : Launch) (D : va_G) (cy : Nat → ClassId) (kd : gKd) (ln : gLn) (rh : gRh) (post : gM → Prop) (a0 : Int) (k0_ : Nat) (a1 : Int) (M : gM) (hp0 : gak (kd a0) k0_ = 8) (hq0 : ∀ x, rng x → gRg (kd a0) k0_ x) (h : wJ7_fill_53178 kd ln post a0 k0_ a1 M) : gMV l D cy yJ7_fill_53178 cJ7_fill_53178 4 0 0 [.ref (rh a0 k0_), .int (gI a1)] kd ln rh M post := by
  refine gMV_of (own := RJ7) (by decide) rfl (Nat.le_of_ble_eq_true rfl) ?_
  intro p e s m args below meth c A H0 Q C hret
  have t5 : ∀ (n : Nat) (x2 : Int) (x3 : Int) (M : gM), wJ7_fill_53178_5 kd ln post a0 k0_ a1 n x2 x3 M → gW p l e (gRm 0 0) s m args below meth c D cy A H0 Q 4 kd ln rh 0 0 M 5 [(0, .ref (rh a0 k0_)), (1, .int (gI a1)), (2, .int (gI x2)), (3, .int (gI x3))] [] := by
    intro n
    induction n with
    | zero => intro x2 x3 M h; exact absurd h (by simp [wJ7_fill_53178_5])
    | succ n ih =>
      intro x2 x3 M h
      have hk5_ := ih
      rw [wJ7_fill_53178_5] at h
      refine q_iload_n C 2 rfl rfl dJ7_fill_53178_5 ?_
      refine q_iload_n C 3 rfl rfl dJ7_fill_53178_6 ?_
      obtain ⟨r5, h⟩ := h
      obtain ⟨r6, h⟩ := h
      refine q_icmp_ge (tgt := 20) C r5 r6 (by decide) dJ7_fill_53178_7 (fun b7 => ?_) (fun b7 => ?_)
      · have h := h.1 b7
        exact hret M _ _ dJ7_fill_53178_20 h
      · have h := h.2 b7
        refine q_aload_n C 0 rfl rfl dJ7_fill_53178_10 ?_
        refine q_iload_n C 2 rfl rfl dJ7_fill_53178_11 ?_
        refine q_iload_n C 1 rfl rfl dJ7_fill_53178_12 ?_
        obtain ⟨r8, h⟩ := h
        obtain ⟨r9, h⟩ := h
        refine q_iast C rfl hp0 (hq0 _ r9) r8 dJ7_fill_53178_13 ?_
        refine q_iinc (lv' := [(2, .int (gI (x2 + 1))), (0, .ref (rh a0 k0_)), (1, .int (gI a1)), (3, .int (gI x3))]) C 2 rfl (by decide) rfl dJ7_fill_53178_14 ?_
        refine q_goto (tgt := 5) C (by decide) dJ7_fill_53178_17 ?_
        refine q_lv (lv' := [(0, .ref (rh a0 k0_)), (1, .int (gI a1)), (2, .int (gI (x2 + 1))), (3, .int (gI x3))]) [1, 2, 0, 3] rfl ?_
        exact hk5_ (x2 + 1) x3 (gu M a0 k0_ x2 a1) h
  unfold wJ7_fill_53178 at h
  refine q_iconst C dJ7_fill_53178_0 ?_
  refine q_istore_n (lv' := [(2, .int (gI 0)), (0, .ref (rh a0 k0_)), (1, .int (gI a1))]) C rfl (by decide) rfl dJ7_fill_53178_1 ?_
  refine q_aload_n C 1 rfl rfl dJ7_fill_53178_2 ?_
  obtain ⟨r1, h⟩ := h
  refine q_alen (t0 := 0) C rfl (by rw [hp0]; rfl) r1 dJ7_fill_53178_3 (fun g2 => ?_)
  have h := h g2
  have g3 : rng (ln a0 k0_) := ⟨by omega, by omega⟩
  refine q_topi (fun v4 ev4 => ?_)
  have h := h v4 ev4
  have gv4 : rng v4 := by rw [ev4]; exact g3
  refine q_istore_n (lv' := [(3, .int (gI v4)), (2, .int (gI 0)), (0, .ref (rh a0 k0_)), (1, .int (gI a1))]) C rfl (by decide) rfl dJ7_fill_53178_4 ?_
  refine q_lv (lv' := [(0, .ref (rh a0 k0_)), (1, .int (gI a1)), (2, .int (gI 0)), (3, .int (gI v4))]) [2, 3, 1, 0] rfl ?_
  obtain ⟨j5, h⟩ := h
  exact t5  j5 0 v4 M h
set_option maxHeartbeats 4000000 in
set_option maxRecDepth 100000 in
theorem mX0_holds (l : Launch) (D : va_G) (cy : Nat → ClassId) (kd : gKd) (ln : gLn) (rh : gRh) (post : Int → gM → Prop) (a0 : Int) (a1 : Int) (M : gM) (hk0 : kd a0 = 0) (h : wX0_holds kd ln post a0 a1 M) : gMI l D cy yX0_holds cX0_holds 2 .boolean 0 0 [.ref (gad a0), .int (gI a1)] kd ln rh M post := by
  refine gMI_ofZ (own := RX0) (by decide) rfl (Nat.le_of_ble_eq_true rfl) ?_
  intro p e s m args below meth c A H0 Q C hret
  unfold wX0_holds at h
  refine q_iload_n C 1 rfl rfl dX0_holds_0 ?_
  obtain ⟨r1, h⟩ := h
  refine q_if_lt (tgt := 16) C r1 (by decide) dX0_holds_1 (fun b2 => ?_) (fun b2 => ?_)
  · have h := h.1 b2
    refine q_iconst C dX0_holds_16 ?_
    exact hret 0 M _ _ dX0_holds_17 (Or.inl rfl) h
  · have h := h.2 b2
    refine q_iload_n C 1 rfl rfl dX0_holds_4 ?_
    refine q_aload_n C 0 rfl rfl dX0_holds_5 ?_
    refine q_get (v := .int (gI (M a0 1 (-1)))) C fX0_21 hk0 rfl dX0_holds_6 (fun g3 => ?_)
    have h := h g3
    refine q_icmp_ge (tgt := 16) C r1 g3 (by decide) dX0_holds_9 (fun b4 => ?_) (fun b4 => ?_)
    · have h := h.1 b4
      refine q_iconst C dX0_holds_16 ?_
      exact hret 0 M _ _ dX0_holds_17 (Or.inl rfl) h
    · have h := h.2 b4
      refine q_iconst C dX0_holds_12 ?_
      refine q_goto (tgt := 17) C (by decide) dX0_holds_13 ?_
      exact hret 1 M _ _ dX0_holds_17 (Or.inr rfl) h
set_option maxHeartbeats 4000000 in
set_option maxRecDepth 100000 in
theorem mX6_has (l : Launch) (D : va_G) (cy : Nat → ClassId) (kd : gKd) (ln : gLn) (rh : gRh) (post : Int → gM → Prop) (a0 : BitVec 64) (a2 : Int) (M : gM)  (h : wX6_has kd ln post a0 a2 M) : gMI l D cy yX6_has cX6_has 3 .boolean 0 0 [.long (gL a0), .int (gI a2)] kd ln rh M post := by
  refine gMI_ofZ (own := RX6) (by decide) rfl (Nat.le_of_ble_eq_true rfl) ?_
  intro p e s m args below meth c A H0 Q C hret
  unfold wX6_has at h
  refine q_lload_n C 0 rfl rfl dX6_has_0 ?_
  refine q_iload_n C 1 rfl rfl dX6_has_1 ?_
  refine q_lushr C dX6_has_2 ?_
  refine q_lconst (b := 1) C rfl dX6_has_3 ?_
  refine q_land C dX6_has_4 ?_
  refine q_lconst (b := 0) C rfl dX6_has_5 ?_
  refine q_lcmp C dX6_has_6 ?_
  refine q_if_eq (tgt := 14) C (rng_of _) (by decide) dX6_has_7 (fun b1 => ?_) (fun b1 => ?_)
  · have h := h.1 b1
    refine q_iconst C dX6_has_14 ?_
    exact hret 0 M _ _ dX6_has_15 (Or.inl rfl) h
  · have h := h.2 b1
    refine q_iconst C dX6_has_10 ?_
    refine q_goto (tgt := 15) C (by decide) dX6_has_11 ?_
    exact hret 1 M _ _ dX6_has_15 (Or.inr rfl) h
set_option maxHeartbeats 4000000 in
set_option maxRecDepth 100000 in
theorem mX0_areNext (l : Launch) (D : va_G) (cy : Nat → ClassId) (kd : gKd) (ln : gLn) (rh : gRh) (post : Int → gM → Prop) (a0 : Int) (a1 : Int) (a2 : Int) (M : gM) (hk0 : kd a0 = 0) (h : wX0_areNext kd ln post a0 a1 a2 M) : gMI l D cy yX0_areNext cX0_areNext 3 .boolean 1 22 [.ref (gad a0), .int (gI a1), .int (gI a2)] kd ln rh M post := by
  refine gMI_ofZ (own := RX0) (by decide) rfl (Nat.le_of_ble_eq_true rfl) ?_
  intro p e s m args below meth c A H0 Q C hret
  unfold wX0_areNext at h
  refine q_aload_n C 0 rfl rfl dX0_areNext_0 ?_
  obtain ⟨r1, h⟩ := h
  refine q_get (v := .ref (rh a0 6)) C fX0_31 hk0 (if_neg (Int.not_lt.mpr r1)) dX0_areNext_1 (fun g2 => ?_)
  refine q_iload_n C 1 rfl rfl dX0_areNext_4 ?_
  obtain ⟨r3, h⟩ := h
  refine q_lald C hk0 rfl (fun _ q => q) r3 dX0_areNext_5 (fun g4 => ?_)
  have h := h g4
  refine q_iload_n C 2 rfl rfl dX0_areNext_6 ?_
  refine q_callNI (As := [.long (gL (BitVec.ofInt 64 (M a0 6 a1))), .int (gI a2)]) (st := []) C vX0_70 kX6_has ⟨Nat.le_of_ble_eq_true rfl, Nat.le_of_ble_eq_true rfl⟩ ⟨Nat.le_of_ble_eq_true rfl, Nat.le_of_ble_eq_true rfl⟩ rfl rfl (Nat.le_of_ble_eq_true rfl) (mX6_has l D cy kd ln rh _ (BitVec.ofInt 64 (M a0 6 a1)) a2 M  h) dX0_areNext_7 (fun c6 M5 g7 h => ?_)
  have h := h g7
  obtain ⟨r8, h⟩ := h
  exact hret c6 M5 _ _ dX0_areNext_10 r8 h
set_option maxHeartbeats 4000000 in
set_option maxRecDepth 100000 in
theorem mX0_isLastRank (l : Launch) (D : va_G) (cy : Nat → ClassId) (kd : gKd) (ln : gLn) (rh : gRh) (post : Int → gM → Prop) (a0 : Int) (a1 : Int) (M : gM) (hk0 : kd a0 = 0) (h : wX0_isLastRank kd ln post a0 a1 M) : gMI l D cy yX0_isLastRank cX0_isLastRank 2 .boolean 0 0 [.ref (gad a0), .int (gI a1)] kd ln rh M post := by
  refine gMI_ofZ (own := RX0) (by decide) rfl (Nat.le_of_ble_eq_true rfl) ?_
  intro p e s m args below meth c A H0 Q C hret
  unfold wX0_isLastRank at h
  refine q_iload_n C 1 rfl rfl dX0_isLastRank_0 ?_
  refine q_aload_n C 0 rfl rfl dX0_isLastRank_1 ?_
  refine q_get (v := .int (gI (M a0 1 (-1)))) C fX0_21 hk0 rfl dX0_isLastRank_2 (fun g1 => ?_)
  have h := h g1
  refine q_aload_n C 0 rfl rfl dX0_isLastRank_5 ?_
  refine q_get (v := .int (gI (M a0 0 (-1)))) C fX0_17 hk0 rfl dX0_isLastRank_6 (fun g2 => ?_)
  have h := h g2
  refine q_isub C dX0_isLastRank_9 ?_
  obtain ⟨r3, h⟩ := h
  obtain ⟨r4, h⟩ := h
  refine q_icmp_lt (tgt := 17) C r3 r4 (by decide) dX0_isLastRank_10 (fun b5 => ?_) (fun b5 => ?_)
  · have h := h.1 b5
    refine q_iconst C dX0_isLastRank_17 ?_
    exact hret 0 M _ _ dX0_isLastRank_18 (Or.inl rfl) h
  · have h := h.2 b5
    refine q_iconst C dX0_isLastRank_13 ?_
    refine q_goto (tgt := 18) C (by decide) dX0_isLastRank_14 ?_
    exact hret 1 M _ _ dX0_isLastRank_18 (Or.inr rfl) h
set_option maxHeartbeats 4000000 in
set_option maxRecDepth 100000 in
theorem mX0_sight (l : Launch) (D : va_G) (cy : Nat → ClassId) (kd : gKd) (ln : gLn) (rh : gRh) (post : BitVec 64 → gM → Prop) (a0 : Int) (a1 : Int) (a2 : Int) (a3 : Int) (M : gM) (hk0 : kd a0 = 0) (h : wX0_sight kd ln post a0 a1 a2 a3 M) : gML l D cy yX0_sight cX0_sight 4 0 0 [.ref (gad a0), .int (gI a1), .int (gI a2), .int (gI a3)] kd ln rh M post := by
  refine gML_of (own := RX0) (by decide) rfl (Nat.le_of_ble_eq_true rfl) ?_
  intro p e s m args below meth c A H0 Q C hret
  unfold wX0_sight at h
  refine q_aload_n C 0 rfl rfl dX0_sight_0 ?_
  obtain ⟨r1, h⟩ := h
  refine q_get (v := .ref (rh a0 7)) C fX0_37 hk0 (if_neg (Int.not_lt.mpr r1)) dX0_sight_1 (fun g2 => ?_)
  refine q_iload_n C 1 rfl rfl dX0_sight_4 ?_
  obtain ⟨r3, h⟩ := h
  refine q_aaldR C hk0 rfl r3 dX0_sight_5 ?_
  refine q_iload_n C 3 rfl rfl dX0_sight_6 ?_
  obtain ⟨r4, h⟩ := h
  refine q_lald C hk0 (gak_row _) (fun _ q => gRg_row q) r4 dX0_sight_7 (fun g5 => ?_)
  have h := h g5
  refine q_aload_n C 0 rfl rfl dX0_sight_8 ?_
  obtain ⟨r6, h⟩ := h
  refine q_get (v := .ref (rh a0 8)) C fX0_40 hk0 (if_neg (Int.not_lt.mpr r6)) dX0_sight_9 (fun g7 => ?_)
  refine q_iload_n C 3 rfl rfl dX0_sight_12 ?_
  refine q_aload_n C 0 rfl rfl dX0_sight_13 ?_
  refine q_get (v := .int (gI (M a0 1 (-1)))) C fX0_21 hk0 rfl dX0_sight_14 (fun g8 => ?_)
  have h := h g8
  refine q_imul C dX0_sight_17 ?_
  refine q_iload_n C 2 rfl rfl dX0_sight_18 ?_
  refine q_iadd C dX0_sight_19 ?_
  obtain ⟨r9, h⟩ := h
  refine q_lald C hk0 rfl (fun _ q => q) r9 dX0_sight_20 (fun g10 => ?_)
  have h := h g10
  refine q_ldc2 (b := 18446744073709551615) C nX0_92 (by decide) dX0_sight_21 ?_
  refine q_lxor C dX0_sight_24 ?_
  refine q_land C dX0_sight_25 ?_
  exact hret ((BitVec.ofInt 64 (M a0 (100 + a1.toNat) a3)) &&& ((BitVec.ofInt 64 (M a0 8 ((a3 * (M a0 1 (-1))) + a2))) ^^^ (18446744073709551615 : BitVec 64))) M _ _ dX0_sight_26 h
set_option maxHeartbeats 4000000 in
set_option maxRecDepth 100000 in
theorem mX0_attacks (l : Launch) (D : va_G) (cy : Nat → ClassId) (kd : gKd) (ln : gLn) (rh : gRh) (post : Int → gM → Prop) (a0 : Int) (a1 : Int) (a2 : Int) (a3 : Int) (a4 : Int) (M : gM) (hk0 : kd a0 = 0) (h : wX0_attacks kd ln post a0 a1 a2 a3 a4 M) : gMI l D cy yX0_attacks cX0_attacks 5 .boolean 1 23 [.ref (gad a0), .int (gI a1), .int (gI a2), .int (gI a3), .int (gI a4)] kd ln rh M post := by
  refine gMI_ofZ (own := RX0) (by decide) rfl (Nat.le_of_ble_eq_true rfl) ?_
  intro p e s m args below meth c A H0 Q C hret
  unfold wX0_attacks at h
  refine q_aload_n C 0 rfl rfl dX0_attacks_0 ?_
  refine q_iload_n C 1 rfl rfl dX0_attacks_1 ?_
  refine q_iload_n C 2 rfl rfl dX0_attacks_2 ?_
  refine q_iload C 4 rfl dX0_attacks_3 ?_
  refine q_callVL (As := [.int (gI a1), .int (gI a2), .int (gI a4)]) (st := []) C vX0_89 kX0_sight ⟨Nat.le_of_ble_eq_true rfl, Nat.le_of_ble_eq_true rfl⟩ ⟨Nat.le_of_ble_eq_true rfl, Nat.le_of_ble_eq_true rfl⟩ rfl hk0 ⟨_, _, rfl⟩ (by decide) rfl (Nat.le_of_ble_eq_true rfl) (mX0_sight l D cy kd ln rh _ a0 a1 a2 a4 M hk0 h) dX0_attacks_5 (fun c2 M1 h => ?_)
  refine q_iload_n C 3 rfl rfl dX0_attacks_8 ?_
  refine q_callNI (As := [.long (gL c2), .int (gI a3)]) (st := []) C vX0_70 kX6_has ⟨Nat.le_of_ble_eq_true rfl, Nat.le_of_ble_eq_true rfl⟩ ⟨Nat.le_of_ble_eq_true rfl, Nat.le_of_ble_eq_true rfl⟩ rfl rfl (Nat.le_of_ble_eq_true rfl) (mX6_has l D cy kd ln rh _ c2 a3 M1  h) dX0_attacks_9 (fun c5 M4 g6 h => ?_)
  have h := h g6
  obtain ⟨r7, h⟩ := h
  exact hret c5 M4 _ _ dX0_attacks_12 r7 h
set_option maxHeartbeats 4000000 in
set_option maxRecDepth 100000 in
theorem mX0_allows (l : Launch) (D : va_G) (cy : Nat → ClassId) (kd : gKd) (ln : gLn) (rh : gRh) (post : Int → gM → Prop) (a0 : Int) (a1 : Int) (a2 : Int) (a3 : Int) (a4 : Int) (a5 : Int) (M : gM) (hk0 : kd a0 = 0) (h : wX0_allows kd ln post a0 a1 a2 a3 a4 a5 M) : gMI l D cy yX0_allows cX0_allows 6 .boolean 2 47 [.ref (gad a0), .int (gI a1), .int (gI a2), .int (gI a3), .int (gI a4), .int (gI a5)] kd ln rh M post := by
  refine gMI_ofZ (own := RX0) (by decide) rfl (Nat.le_of_ble_eq_true rfl) ?_
  intro p e s m args below meth c A H0 Q C hret
  have t120 : ∀ (M : gM), wX0_allows_120 kd ln post a0 a1 a2 a3 a4 a5  M → gW p l e (gRm 2 47) s m args below meth c D cy A H0 Q 6 kd ln rh 0 0 M 120 [] [] := by
    intro   M h
    unfold wX0_allows_120 at h
    refine q_iconst C dX0_allows_120 ?_
    refine q_goto (tgt := 125) C (by decide) dX0_allows_121 ?_
    exact hret 1 M _ _ dX0_allows_125 (Or.inr rfl) h
  have t102 : ∀ (M : gM), wX0_allows_102 kd ln post a0 a1 a2 a3 a4 a5  M → gW p l e (gRm 2 47) s m args below meth c D cy A H0 Q 6 kd ln rh 0 0 M 102 [(0, .ref (gad a0)), (1, .int (gI a1)), (2, .int (gI a2)), (3, .int (gI a3)), (4, .int (gI a4)), (5, .int (gI a5))] [] := by
    intro   M h
    unfold wX0_allows_102 at h
    refine q_iload C 5 rfl dX0_allows_102 ?_
    refine q_iconst C dX0_allows_104 ?_
    obtain ⟨r36, h⟩ := h
    refine q_icmp_eq (tgt := 120) C r36 (show rng 1 by decide) (by decide) dX0_allows_105 (fun b37 => ?_) (fun b37 => ?_)
    · have h := h.1 b37
      refine q_lv (lv' := []) [] rfl ?_
      exact t120  M h
    · have h := h.2 b37
      refine q_aload_n C 0 rfl rfl dX0_allows_108 ?_
      refine q_iload_n C 1 rfl rfl dX0_allows_109 ?_
      refine q_iload_n C 2 rfl rfl dX0_allows_110 ?_
      refine q_iload_n C 3 rfl rfl dX0_allows_111 ?_
      refine q_iload C 4 rfl dX0_allows_112 ?_
      refine q_callVI (As := [.int (gI a1), .int (gI a2), .int (gI a3), .int (gI a4)]) (st := []) C vX0_85 kX0_attacks ⟨Nat.le_of_ble_eq_true rfl, Nat.le_of_ble_eq_true rfl⟩ ⟨Nat.le_of_ble_eq_true rfl, Nat.le_of_ble_eq_true rfl⟩ rfl hk0 ⟨_, _, rfl⟩ (by decide) rfl (Nat.le_of_ble_eq_true rfl) (mX0_attacks l D cy kd ln rh _ a0 a1 a2 a3 a4 M hk0 h) dX0_allows_114 (fun c39 M38 g40 h => ?_)
      have h := h g40
      refine q_if_ne (tgt := 124) C g40 (by decide) dX0_allows_117 (fun b41 => ?_) (fun b41 => ?_)
      · have h := h.1 b41
        refine q_iconst C dX0_allows_124 ?_
        exact hret 0 M38 _ _ dX0_allows_125 (Or.inl rfl) h
      · have h := h.2 b41
        refine q_lv (lv' := []) [] rfl ?_
        exact t120  M38 h
  unfold wX0_allows at h
  refine q_iload_n C 1 rfl rfl dX0_allows_0 ?_
  obtain ⟨r1, h⟩ := h
  refine q_if_lt (tgt := 20) C r1 (by decide) dX0_allows_1 (fun b2 => ?_) (fun b2 => ?_)
  · have h := h.1 b2
    refine q_iconst C dX0_allows_20 ?_
    exact hret 0 M _ _ dX0_allows_21 (Or.inl rfl) h
  · have h := h.2 b2
    refine q_iload_n C 1 rfl rfl dX0_allows_4 ?_
    refine q_iconst C dX0_allows_5 ?_
    refine q_icmp_gt (tgt := 20) C r1 (show rng 2 by decide) (by decide) dX0_allows_6 (fun b3 => ?_) (fun b3 => ?_)
    · have h := h.1 b3
      refine q_iconst C dX0_allows_20 ?_
      exact hret 0 M _ _ dX0_allows_21 (Or.inl rfl) h
    · have h := h.2 b3
      refine q_iload C 5 rfl dX0_allows_9 ?_
      obtain ⟨r4, h⟩ := h
      refine q_if_lt (tgt := 20) C r4 (by decide) dX0_allows_11 (fun b5 => ?_) (fun b5 => ?_)
      · have h := h.1 b5
        refine q_iconst C dX0_allows_20 ?_
        exact hret 0 M _ _ dX0_allows_21 (Or.inl rfl) h
      · have h := h.2 b5
        refine q_iload C 5 rfl dX0_allows_14 ?_
        refine q_iconst C dX0_allows_16 ?_
        refine q_icmp_le (tgt := 22) C r4 (show rng 1 by decide) (by decide) dX0_allows_17 (fun b6 => ?_) (fun b6 => ?_)
        · have h := h.1 b6
          refine q_aload_n C 0 rfl rfl dX0_allows_22 ?_
          refine q_iload_n C 2 rfl rfl dX0_allows_23 ?_
          refine q_callVI (As := [.int (gI a2)]) (st := []) C vX0_74 kX0_holds ⟨Nat.le_of_ble_eq_true rfl, Nat.le_of_ble_eq_true rfl⟩ ⟨Nat.le_of_ble_eq_true rfl, Nat.le_of_ble_eq_true rfl⟩ rfl hk0 ⟨_, _, rfl⟩ (by decide) rfl (Nat.le_of_ble_eq_true rfl) (mX0_holds l D cy kd ln rh _ a0 a2 M hk0 h) dX0_allows_24 (fun c8 M7 g9 h => ?_)
          have h := h g9
          refine q_if_eq (tgt := 47) C g9 (by decide) dX0_allows_27 (fun b10 => ?_) (fun b10 => ?_)
          · have h := h.1 b10
            refine q_iconst C dX0_allows_47 ?_
            exact hret 0 M7 _ _ dX0_allows_48 (Or.inl rfl) h
          · have h := h.2 b10
            refine q_aload_n C 0 rfl rfl dX0_allows_30 ?_
            refine q_iload_n C 3 rfl rfl dX0_allows_31 ?_
            refine q_callVI (As := [.int (gI a3)]) (st := []) C vX0_74 kX0_holds ⟨Nat.le_of_ble_eq_true rfl, Nat.le_of_ble_eq_true rfl⟩ ⟨Nat.le_of_ble_eq_true rfl, Nat.le_of_ble_eq_true rfl⟩ rfl hk0 ⟨_, _, rfl⟩ (by decide) rfl (Nat.le_of_ble_eq_true rfl) (mX0_holds l D cy kd ln rh _ a0 a3 M7 hk0 h) dX0_allows_32 (fun c12 M11 g13 h => ?_)
            have h := h g13
            refine q_if_eq (tgt := 47) C g13 (by decide) dX0_allows_35 (fun b14 => ?_) (fun b14 => ?_)
            · have h := h.1 b14
              refine q_iconst C dX0_allows_47 ?_
              exact hret 0 M11 _ _ dX0_allows_48 (Or.inl rfl) h
            · have h := h.2 b14
              refine q_aload_n C 0 rfl rfl dX0_allows_38 ?_
              refine q_iload C 4 rfl dX0_allows_39 ?_
              refine q_callVI (As := [.int (gI a4)]) (st := []) C vX0_74 kX0_holds ⟨Nat.le_of_ble_eq_true rfl, Nat.le_of_ble_eq_true rfl⟩ ⟨Nat.le_of_ble_eq_true rfl, Nat.le_of_ble_eq_true rfl⟩ rfl hk0 ⟨_, _, rfl⟩ (by decide) rfl (Nat.le_of_ble_eq_true rfl) (mX0_holds l D cy kd ln rh _ a0 a4 M11 hk0 h) dX0_allows_41 (fun c16 M15 g17 h => ?_)
              have h := h g17
              refine q_if_ne (tgt := 49) C g17 (by decide) dX0_allows_44 (fun b18 => ?_) (fun b18 => ?_)
              · have h := h.1 b18
                refine q_iload_n C 2 rfl rfl dX0_allows_49 ?_
                refine q_iload_n C 3 rfl rfl dX0_allows_50 ?_
                obtain ⟨r19, h⟩ := h
                obtain ⟨r20, h⟩ := h
                refine q_icmp_eq (tgt := 75) C r19 r20 (by decide) dX0_allows_51 (fun b21 => ?_) (fun b21 => ?_)
                · have h := h.1 b21
                  refine q_iconst C dX0_allows_75 ?_
                  exact hret 0 M15 _ _ dX0_allows_76 (Or.inl rfl) h
                · have h := h.2 b21
                  refine q_iload_n C 2 rfl rfl dX0_allows_54 ?_
                  refine q_iload C 4 rfl dX0_allows_55 ?_
                  obtain ⟨r22, h⟩ := h
                  refine q_icmp_eq (tgt := 75) C r19 r22 (by decide) dX0_allows_57 (fun b23 => ?_) (fun b23 => ?_)
                  · have h := h.1 b23
                    refine q_iconst C dX0_allows_75 ?_
                    exact hret 0 M15 _ _ dX0_allows_76 (Or.inl rfl) h
                  · have h := h.2 b23
                    refine q_iload_n C 3 rfl rfl dX0_allows_60 ?_
                    refine q_iload C 4 rfl dX0_allows_61 ?_
                    refine q_icmp_eq (tgt := 75) C r20 r22 (by decide) dX0_allows_63 (fun b24 => ?_) (fun b24 => ?_)
                    · have h := h.1 b24
                      refine q_iconst C dX0_allows_75 ?_
                      exact hret 0 M15 _ _ dX0_allows_76 (Or.inl rfl) h
                    · have h := h.2 b24
                      refine q_aload_n C 0 rfl rfl dX0_allows_66 ?_
                      refine q_iload_n C 2 rfl rfl dX0_allows_67 ?_
                      refine q_iload_n C 3 rfl rfl dX0_allows_68 ?_
                      refine q_callVI (As := [.int (gI a2), .int (gI a3)]) (st := []) C vX0_78 kX0_areNext ⟨Nat.le_of_ble_eq_true rfl, Nat.le_of_ble_eq_true rfl⟩ ⟨Nat.le_of_ble_eq_true rfl, Nat.le_of_ble_eq_true rfl⟩ rfl hk0 ⟨_, _, rfl⟩ (by decide) rfl (Nat.le_of_ble_eq_true rfl) (mX0_areNext l D cy kd ln rh _ a0 a2 a3 M15 hk0 h) dX0_allows_69 (fun c26 M25 g27 h => ?_)
                      have h := h g27
                      refine q_if_eq (tgt := 77) C g27 (by decide) dX0_allows_72 (fun b28 => ?_) (fun b28 => ?_)
                      · have h := h.1 b28
                        refine q_iload_n C 1 rfl rfl dX0_allows_77 ?_
                        refine q_iconst C dX0_allows_78 ?_
                        refine q_icmp_ne (tgt := 102) C r1 (show rng 2 by decide) (by decide) dX0_allows_79 (fun b29 => ?_) (fun b29 => ?_)
                        · have h := h.1 b29
                          exact t102  M25 h
                        · have h := h.2 b29
                          refine q_iload C 4 rfl dX0_allows_82 ?_
                          refine q_aload_n C 0 rfl rfl dX0_allows_84 ?_
                          refine q_get (v := .int (gI (M25 a0 0 (-1)))) C fX0_17 hk0 rfl dX0_allows_85 (fun g30 => ?_)
                          have h := h g30
                          refine q_icmp_lt (tgt := 100) C r22 g30 (by decide) dX0_allows_88 (fun b31 => ?_) (fun b31 => ?_)
                          · have h := h.1 b31
                            refine q_iconst C dX0_allows_100 ?_
                            exact hret 0 M25 _ _ dX0_allows_101 (Or.inl rfl) h
                          · have h := h.2 b31
                            refine q_aload_n C 0 rfl rfl dX0_allows_91 ?_
                            refine q_iload C 4 rfl dX0_allows_92 ?_
                            refine q_callVI (As := [.int (gI a4)]) (st := []) C vX0_82 kX0_isLastRank ⟨Nat.le_of_ble_eq_true rfl, Nat.le_of_ble_eq_true rfl⟩ ⟨Nat.le_of_ble_eq_true rfl, Nat.le_of_ble_eq_true rfl⟩ rfl hk0 ⟨_, _, rfl⟩ (by decide) rfl (Nat.le_of_ble_eq_true rfl) (mX0_isLastRank l D cy kd ln rh _ a0 a4 M25 hk0 h) dX0_allows_94 (fun c33 M32 g34 h => ?_)
                            have h := h g34
                            refine q_if_eq (tgt := 102) C g34 (by decide) dX0_allows_97 (fun b35 => ?_) (fun b35 => ?_)
                            · have h := h.1 b35
                              exact t102  M32 h
                            · have h := h.2 b35
                              refine q_iconst C dX0_allows_100 ?_
                              exact hret 0 M32 _ _ dX0_allows_101 (Or.inl rfl) h
                      · have h := h.2 b28
                        refine q_iconst C dX0_allows_75 ?_
                        exact hret 0 M25 _ _ dX0_allows_76 (Or.inl rfl) h
              · have h := h.2 b18
                refine q_iconst C dX0_allows_47 ?_
                exact hret 0 M15 _ _ dX0_allows_48 (Or.inl rfl) h
        · have h := h.2 b6
          refine q_iconst C dX0_allows_20 ?_
          exact hret 0 M _ _ dX0_allows_21 (Or.inl rfl) h
set_option maxHeartbeats 4000000 in
set_option maxRecDepth 100000 in
theorem mX6_bit (l : Launch) (D : va_G) (cy : Nat → ClassId) (kd : gKd) (ln : gLn) (rh : gRh) (post : BitVec 64 → gM → Prop) (a0 : Int) (M : gM)  (h : wX6_bit kd ln post a0 M) : gML l D cy yX6_bit cX6_bit 1 0 0 [.int (gI a0)] kd ln rh M post := by
  refine gML_of (own := RX6) (by decide) rfl (Nat.le_of_ble_eq_true rfl) ?_
  intro p e s m args below meth c A H0 Q C hret
  unfold wX6_bit at h
  refine q_lconst (b := 1) C rfl dX6_bit_0 ?_
  refine q_iload_n C 0 rfl rfl dX6_bit_1 ?_
  refine q_lshl C dX6_bit_2 ?_
  exact hret (glshl (1 : BitVec 64) a0) M _ _ dX6_bit_3 h
set_option maxHeartbeats 4000000 in
set_option maxRecDepth 100000 in
theorem mX0_blackSources (l : Launch) (D : va_G) (cy : Nat → ClassId) (kd : gKd) (ln : gLn) (rh : gRh) (post : BitVec 64 → gM → Prop) (a0 : Int) (a1 : Int) (a2 : Int) (a3 : Int) (M : gM) (hk0 : kd a0 = 0) (h : wX0_blackSources kd ln post a0 a1 a2 a3 M) : gML l D cy yX0_blackSources cX0_blackSources 4 1 20 [.ref (gad a0), .int (gI a1), .int (gI a2), .int (gI a3)] kd ln rh M post := by
  refine gML_of (own := RX0) (by decide) rfl (Nat.le_of_ble_eq_true rfl) ?_
  intro p e s m args below meth c A H0 Q C hret
  unfold wX0_blackSources at h
  refine q_aload_n C 0 rfl rfl dX0_blackSources_0 ?_
  obtain ⟨r1, h⟩ := h
  refine q_get (v := .ref (rh a0 6)) C fX0_31 hk0 (if_neg (Int.not_lt.mpr r1)) dX0_blackSources_1 (fun g2 => ?_)
  refine q_iload_n C 2 rfl rfl dX0_blackSources_4 ?_
  obtain ⟨r3, h⟩ := h
  refine q_lald C hk0 rfl (fun _ q => q) r3 dX0_blackSources_5 (fun g4 => ?_)
  have h := h g4
  refine q_aload_n C 0 rfl rfl dX0_blackSources_6 ?_
  refine q_get (v := .ref (rh a0 6)) C fX0_31 hk0 (if_neg (Int.not_lt.mpr r1)) dX0_blackSources_7 (fun g5 => ?_)
  refine q_iload_n C 1 rfl rfl dX0_blackSources_10 ?_
  obtain ⟨r6, h⟩ := h
  refine q_lald C hk0 rfl (fun _ q => q) r6 dX0_blackSources_11 (fun g7 => ?_)
  have h := h g7
  refine q_ldc2 (b := 18446744073709551615) C nX0_92 (by decide) dX0_blackSources_12 ?_
  refine q_lxor C dX0_blackSources_15 ?_
  refine q_land C dX0_blackSources_16 ?_
  refine q_iload_n C 1 rfl rfl dX0_blackSources_17 ?_
  refine q_callNL (As := [.int (gI a1)]) (st := [.long (gL ((BitVec.ofInt 64 (M a0 6 a2)) &&& ((BitVec.ofInt 64 (M a0 6 a1)) ^^^ (18446744073709551615 : BitVec 64))))]) C vX0_62 kX6_bit ⟨Nat.le_of_ble_eq_true rfl, Nat.le_of_ble_eq_true rfl⟩ ⟨Nat.le_of_ble_eq_true rfl, Nat.le_of_ble_eq_true rfl⟩ rfl rfl (Nat.le_of_ble_eq_true rfl) (mX6_bit l D cy kd ln rh _ a1 M  h) dX0_blackSources_18 (fun c9 M8 h => ?_)
  refine q_ldc2 (b := 18446744073709551615) C nX0_92 (by decide) dX0_blackSources_21 ?_
  refine q_lxor C dX0_blackSources_24 ?_
  refine q_land C dX0_blackSources_25 ?_
  refine q_iload_n C 3 rfl rfl dX0_blackSources_26 ?_
  refine q_callNL (As := [.int (gI a3)]) (st := [.long (gL (((BitVec.ofInt 64 (M a0 6 a2)) &&& ((BitVec.ofInt 64 (M a0 6 a1)) ^^^ (18446744073709551615 : BitVec 64))) &&& (c9 ^^^ (18446744073709551615 : BitVec 64))))]) C vX0_62 kX6_bit ⟨Nat.le_of_ble_eq_true rfl, Nat.le_of_ble_eq_true rfl⟩ ⟨Nat.le_of_ble_eq_true rfl, Nat.le_of_ble_eq_true rfl⟩ rfl rfl (Nat.le_of_ble_eq_true rfl) (mX6_bit l D cy kd ln rh _ a3 M8  h) dX0_blackSources_27 (fun c12 M11 h => ?_)
  refine q_ldc2 (b := 18446744073709551615) C nX0_92 (by decide) dX0_blackSources_30 ?_
  refine q_lxor C dX0_blackSources_33 ?_
  refine q_land C dX0_blackSources_34 ?_
  exact hret ((((BitVec.ofInt 64 (M a0 6 a2)) &&& ((BitVec.ofInt 64 (M a0 6 a1)) ^^^ (18446744073709551615 : BitVec 64))) &&& (c9 ^^^ (18446744073709551615 : BitVec 64))) &&& (c12 ^^^ (18446744073709551615 : BitVec 64))) M11 _ _ dX0_blackSources_35 h
set_option maxHeartbeats 4000000 in
set_option maxRecDepth 100000 in
theorem mX0_blackTargets (l : Launch) (D : va_G) (cy : Nat → ClassId) (kd : gKd) (ln : gLn) (rh : gRh) (post : BitVec 64 → gM → Prop) (a0 : Int) (a1 : Int) (a2 : Int) (a3 : Int) (a4 : Int) (M : gM) (hk0 : kd a0 = 0) (h : wX0_blackTargets kd ln post a0 a1 a2 a3 a4 M) : gML l D cy yX0_blackTargets cX0_blackTargets 5 1 23 [.ref (gad a0), .int (gI a1), .int (gI a2), .int (gI a3), .int (gI a4)] kd ln rh M post := by
  refine gML_of (own := RX0) (by decide) rfl (Nat.le_of_ble_eq_true rfl) ?_
  intro p e s m args below meth c A H0 Q C hret
  unfold wX0_blackTargets at h
  refine q_aload_n C 0 rfl rfl dX0_blackTargets_0 ?_
  obtain ⟨r1, h⟩ := h
  refine q_get (v := .ref (rh a0 6)) C fX0_31 hk0 (if_neg (Int.not_lt.mpr r1)) dX0_blackTargets_1 (fun g2 => ?_)
  refine q_iload_n C 3 rfl rfl dX0_blackTargets_4 ?_
  obtain ⟨r3, h⟩ := h
  refine q_lald C hk0 rfl (fun _ q => q) r3 dX0_blackTargets_5 (fun g4 => ?_)
  have h := h g4
  refine q_aload_n C 0 rfl rfl dX0_blackTargets_6 ?_
  refine q_get (v := .ref (rh a0 6)) C fX0_31 hk0 (if_neg (Int.not_lt.mpr r1)) dX0_blackTargets_7 (fun g5 => ?_)
  refine q_iload_n C 2 rfl rfl dX0_blackTargets_10 ?_
  obtain ⟨r6, h⟩ := h
  refine q_lald C hk0 rfl (fun _ q => q) r6 dX0_blackTargets_11 (fun g7 => ?_)
  have h := h g7
  refine q_ldc2 (b := 18446744073709551615) C nX0_92 (by decide) dX0_blackTargets_12 ?_
  refine q_lxor C dX0_blackTargets_15 ?_
  refine q_land C dX0_blackTargets_16 ?_
  refine q_aload_n C 0 rfl rfl dX0_blackTargets_17 ?_
  refine q_iload_n C 1 rfl rfl dX0_blackTargets_18 ?_
  refine q_iload_n C 2 rfl rfl dX0_blackTargets_19 ?_
  refine q_iload C 4 rfl dX0_blackTargets_20 ?_
  refine q_callVL (As := [.int (gI a1), .int (gI a2), .int (gI a4)]) (st := [.long (gL ((BitVec.ofInt 64 (M a0 6 a3)) &&& ((BitVec.ofInt 64 (M a0 6 a2)) ^^^ (18446744073709551615 : BitVec 64))))]) C vX0_89 kX0_sight ⟨Nat.le_of_ble_eq_true rfl, Nat.le_of_ble_eq_true rfl⟩ ⟨Nat.le_of_ble_eq_true rfl, Nat.le_of_ble_eq_true rfl⟩ rfl hk0 ⟨_, _, rfl⟩ (by decide) rfl (Nat.le_of_ble_eq_true rfl) (mX0_sight l D cy kd ln rh _ a0 a1 a2 a4 M hk0 h) dX0_blackTargets_22 (fun c9 M8 h => ?_)
  refine q_ldc2 (b := 18446744073709551615) C nX0_92 (by decide) dX0_blackTargets_25 ?_
  refine q_lxor C dX0_blackTargets_28 ?_
  refine q_land C dX0_blackTargets_29 ?_
  exact hret (((BitVec.ofInt 64 (M a0 6 a3)) &&& ((BitVec.ofInt 64 (M a0 6 a2)) ^^^ (18446744073709551615 : BitVec 64))) &&& (c9 ^^^ (18446744073709551615 : BitVec 64))) M8 _ _ dX0_blackTargets_30 h
set_option maxHeartbeats 4000000 in
set_option maxRecDepth 100000 in
theorem mX0_squareAt (l : Launch) (D : va_G) (cy : Nat → ClassId) (kd : gKd) (ln : gLn) (rh : gRh) (post : Int → gM → Prop) (a0 : Int) (a1 : Int) (a2 : Int) (M : gM) (hk0 : kd a0 = 0) (h : wX0_squareAt kd ln post a0 a1 a2 M) : gMI l D cy yX0_squareAt cX0_squareAt 3 .int 0 0 [.ref (gad a0), .int (gI a1), .int (gI a2)] kd ln rh M post := by
  refine gMI_of (own := RX0) (by decide) rfl (Nat.le_of_ble_eq_true rfl) ?_
  intro p e s m args below meth c A H0 Q C hret
  have t24 : ∀ (M : gM), wX0_squareAt_24 kd ln post a0 a1 a2  M → gW p l e (gRm 0 0) s m args below meth c D cy A H0 Q 3 kd ln rh 0 0 M 24 [] [] := by
    intro   M h
    unfold wX0_squareAt_24 at h
    refine q_iconst C dX0_squareAt_24 ?_
    refine q_goto (tgt := 36) C (by decide) dX0_squareAt_25 ?_
    exact hret (-1) M _ _ dX0_squareAt_36 (show rng (-1) by decide) h
  unfold wX0_squareAt at h
  refine q_iload_n C 1 rfl rfl dX0_squareAt_0 ?_
  obtain ⟨r1, h⟩ := h
  refine q_if_lt (tgt := 24) C r1 (by decide) dX0_squareAt_1 (fun b2 => ?_) (fun b2 => ?_)
  · have h := h.1 b2
    refine q_lv (lv' := []) [] rfl ?_
    exact t24  M h
  · have h := h.2 b2
    refine q_iload_n C 1 rfl rfl dX0_squareAt_4 ?_
    refine q_aload_n C 0 rfl rfl dX0_squareAt_5 ?_
    refine q_get (v := .int (gI (M a0 0 (-1)))) C fX0_17 hk0 rfl dX0_squareAt_6 (fun g3 => ?_)
    have h := h g3
    refine q_icmp_ge (tgt := 24) C r1 g3 (by decide) dX0_squareAt_9 (fun b4 => ?_) (fun b4 => ?_)
    · have h := h.1 b4
      refine q_lv (lv' := []) [] rfl ?_
      exact t24  M h
    · have h := h.2 b4
      refine q_iload_n C 2 rfl rfl dX0_squareAt_12 ?_
      obtain ⟨r5, h⟩ := h
      refine q_if_lt (tgt := 24) C r5 (by decide) dX0_squareAt_13 (fun b6 => ?_) (fun b6 => ?_)
      · have h := h.1 b6
        refine q_lv (lv' := []) [] rfl ?_
        exact t24  M h
      · have h := h.2 b6
        refine q_iload_n C 2 rfl rfl dX0_squareAt_16 ?_
        refine q_aload_n C 0 rfl rfl dX0_squareAt_17 ?_
        refine q_get (v := .int (gI (M a0 0 (-1)))) C fX0_17 hk0 rfl dX0_squareAt_18 (fun g7 => ?_)
        refine q_icmp_lt (tgt := 28) C r5 g3 (by decide) dX0_squareAt_21 (fun b8 => ?_) (fun b8 => ?_)
        · have h := h.1 b8
          refine q_aload_n C 0 rfl rfl dX0_squareAt_28 ?_
          refine q_get (v := .int (gI (M a0 0 (-1)))) C fX0_17 hk0 rfl dX0_squareAt_29 (fun g9 => ?_)
          refine q_iload_n C 1 rfl rfl dX0_squareAt_32 ?_
          refine q_imul C dX0_squareAt_33 ?_
          refine q_iload_n C 2 rfl rfl dX0_squareAt_34 ?_
          refine q_iadd C dX0_squareAt_35 ?_
          obtain ⟨r10, h⟩ := h
          exact hret (((M a0 0 (-1)) * a1) + a2) M _ _ dX0_squareAt_36 r10 h
        · have h := h.2 b8
          refine q_lv (lv' := []) [] rfl ?_
          exact t24  M h
set_option maxHeartbeats 4000000 in
set_option maxRecDepth 100000 in
theorem mX0_lookAlong (l : Launch) (D : va_G) (cy : Nat → ClassId) (kd : gKd) (ln : gLn) (rh : gRh) (post : BitVec 64 → gM → Prop) (a0 : Int) (a1 : Int) (a2 : Int) (a3 : Int) (M : gM) (hk0 : kd a0 = 0) (h : wX0_lookAlong kd ln post a0 a1 a2 a3 M) : gML l D cy yX0_lookAlong cX0_lookAlong 8 1 22 [.ref (gad a0), .int (gI a1), .int (gI a2), .int (gI a3)] kd ln rh M post := by
  refine gML_of (own := RX0) (by decide) rfl (Nat.le_of_ble_eq_true rfl) ?_
  intro p e s m args below meth c A H0 Q C hret
  have t76 : ∀ (k11 : BitVec 64 → Int → gM → Prop), (∀ (x4 : BitVec 64), ∀ (x6 : Int), ∀ (M : gM), k11 x4 x6 M → gW p l e (gRm 1 22) s m args below meth c D cy A H0 Q 8 kd ln rh 0 0 M 11 [(0, .ref (gad a0)), (1, .int (gI a1)), (2, .int (gI a2)), (3, .int (gI a3)), (4, .long (gL x4)), (6, .int (gI x6))] []) → ∀ (x4 : BitVec 64) (x6 : Int) (M : gM), wX0_lookAlong_76 kd ln post a0 a1 a2 a3 k11 x4 x6 M → gW p l e (gRm 1 22) s m args below meth c D cy A H0 Q 8 kd ln rh 0 0 M 76 [(0, .ref (gad a0)), (1, .int (gI a1)), (2, .int (gI a2)), (3, .int (gI a3)), (4, .long (gL x4)), (6, .int (gI x6))] [] := by
    intro k11 hk11_ x4 x6 M h
    unfold wX0_lookAlong_76 at h
    refine q_iinc (lv' := [(6, .int (gI (x6 + (-1)))), (0, .ref (gad a0)), (1, .int (gI a1)), (2, .int (gI a2)), (3, .int (gI a3)), (4, .long (gL x4))]) C 5 rfl (by decide) rfl dX0_lookAlong_76 ?_
    refine q_goto (tgt := 11) C (by decide) dX0_lookAlong_79 ?_
    refine q_lv (lv' := [(0, .ref (gad a0)), (1, .int (gI a1)), (2, .int (gI a2)), (3, .int (gI a3)), (4, .long (gL x4)), (6, .int (gI (x6 + (-1))))]) [1, 2, 3, 4, 5, 0] rfl ?_
    exact hk11_ x4 (x6 + (-1)) M h
  have t11 : ∀ (n : Nat) (x4 : BitVec 64) (x6 : Int) (M : gM), wX0_lookAlong_11 kd ln post a0 a1 a2 a3 n x4 x6 M → gW p l e (gRm 1 22) s m args below meth c D cy A H0 Q 8 kd ln rh 0 0 M 11 [(0, .ref (gad a0)), (1, .int (gI a1)), (2, .int (gI a2)), (3, .int (gI a3)), (4, .long (gL x4)), (6, .int (gI x6))] [] := by
    intro n
    induction n with
    | zero => intro x4 x6 M h; exact absurd h (by simp [wX0_lookAlong_11])
    | succ n ih =>
      intro x4 x6 M h
      have hk11_ := ih
      rw [wX0_lookAlong_11] at h
      refine q_iload C 5 rfl dX0_lookAlong_11 ?_
      obtain ⟨r4, h⟩ := h
      refine q_if_le (tgt := 82) C r4 (by decide) dX0_lookAlong_13 (fun b5 => ?_) (fun b5 => ?_)
      · have h := h.1 b5
        refine q_lload C 4 rfl dX0_lookAlong_82 ?_
        exact hret x4 M _ _ dX0_lookAlong_84 h
      · have h := h.2 b5
        refine q_aload_n C 0 rfl rfl dX0_lookAlong_16 ?_
        refine q_aload_n C 0 rfl rfl dX0_lookAlong_17 ?_
        obtain ⟨r6, h⟩ := h
        refine q_get (v := .ref (rh a0 2)) C fX0_24 hk0 (if_neg (Int.not_lt.mpr r6)) dX0_lookAlong_18 (fun g7 => ?_)
        refine q_iload_n C 1 rfl rfl dX0_lookAlong_21 ?_
        obtain ⟨r8, h⟩ := h
        refine q_iald C hk0 rfl (fun _ q => q) r8 dX0_lookAlong_22 (fun g9 => ?_)
        have h := h g9
        refine q_iload C 5 rfl dX0_lookAlong_23 ?_
        refine q_iload_n C 2 rfl rfl dX0_lookAlong_25 ?_
        refine q_imul C dX0_lookAlong_26 ?_
        refine q_iadd C dX0_lookAlong_27 ?_
        refine q_aload_n C 0 rfl rfl dX0_lookAlong_28 ?_
        obtain ⟨r10, h⟩ := h
        refine q_get (v := .ref (rh a0 3)) C fX0_28 hk0 (if_neg (Int.not_lt.mpr r10)) dX0_lookAlong_29 (fun g11 => ?_)
        refine q_iload_n C 1 rfl rfl dX0_lookAlong_32 ?_
        obtain ⟨r12, h⟩ := h
        refine q_iald C hk0 rfl (fun _ q => q) r12 dX0_lookAlong_33 (fun g13 => ?_)
        have h := h g13
        refine q_iload C 5 rfl dX0_lookAlong_34 ?_
        refine q_iload_n C 3 rfl rfl dX0_lookAlong_36 ?_
        refine q_imul C dX0_lookAlong_37 ?_
        refine q_iadd C dX0_lookAlong_38 ?_
        refine q_callVI (As := [.int (gI ((M a0 2 a1) + (x6 * a2))), .int (gI ((M a0 3 a1) + (x6 * a3)))]) (st := []) C vX0_46 kX0_squareAt ⟨Nat.le_of_ble_eq_true rfl, Nat.le_of_ble_eq_true rfl⟩ ⟨Nat.le_of_ble_eq_true rfl, Nat.le_of_ble_eq_true rfl⟩ rfl hk0 ⟨_, _, rfl⟩ (by decide) rfl (Nat.le_of_ble_eq_true rfl) (mX0_squareAt l D cy kd ln rh _ a0 ((M a0 2 a1) + (x6 * a2)) ((M a0 3 a1) + (x6 * a3)) M hk0 h) dX0_lookAlong_39 (fun c15 M14 g16 h => ?_)
        have h := h g16
        refine q_istore (lv' := [(7, .int (gI c15)), (0, .ref (gad a0)), (1, .int (gI a1)), (2, .int (gI a2)), (3, .int (gI a3)), (4, .long (gL x4)), (6, .int (gI x6))]) C (by decide) rfl dX0_lookAlong_42 ?_
        refine q_iload C 0 rfl dX0_lookAlong_44 ?_
        refine q_iconst C dX0_lookAlong_46 ?_
        refine q_icmp_eq (tgt := 76) C g16 (show rng (-1) by decide) (by decide) dX0_lookAlong_47 (fun b17 => ?_) (fun b17 => ?_)
        · have h := h.1 b17
          refine q_lv (lv' := [(0, .ref (gad a0)), (1, .int (gI a1)), (2, .int (gI a2)), (3, .int (gI a3)), (4, .long (gL x4)), (6, .int (gI x6))]) [1, 2, 3, 4, 5, 6] rfl ?_
          exact t76 (wX0_lookAlong_11 kd ln post a0 a1 a2 a3 n) hk11_ x4 x6 M14 h
        · have h := h.2 b17
          refine q_aload_n C 1 rfl rfl dX0_lookAlong_50 ?_
          obtain ⟨r18, h⟩ := h
          refine q_get (v := .ref (rh a0 8)) C fX0_40 hk0 (if_neg (Int.not_lt.mpr r18)) dX0_lookAlong_51 (fun g19 => ?_)
          refine q_iload_n C 2 rfl rfl dX0_lookAlong_54 ?_
          refine q_aload_n C 1 rfl rfl dX0_lookAlong_55 ?_
          refine q_get (v := .int (gI (M14 a0 1 (-1)))) C fX0_21 hk0 rfl dX0_lookAlong_56 (fun g20 => ?_)
          have h := h g20
          refine q_imul C dX0_lookAlong_59 ?_
          refine q_iload C 0 rfl dX0_lookAlong_60 ?_
          refine q_iadd C dX0_lookAlong_62 ?_
          refine q_lload C 5 rfl dX0_lookAlong_63 ?_
          obtain ⟨r21, h⟩ := h
          refine q_last C hk0 rfl (rngL x4) r21 dX0_lookAlong_65 ?_
          refine q_lload C 5 rfl dX0_lookAlong_66 ?_
          refine q_iload C 0 rfl dX0_lookAlong_68 ?_
          refine q_callNL (As := [.int (gI c15)]) (st := [.long (gL x4)]) C vX0_62 kX6_bit ⟨Nat.le_of_ble_eq_true rfl, Nat.le_of_ble_eq_true rfl⟩ ⟨Nat.le_of_ble_eq_true rfl, Nat.le_of_ble_eq_true rfl⟩ rfl rfl (Nat.le_of_ble_eq_true rfl) (mX6_bit l D cy kd ln rh _ c15 (gu M14 a0 8 ((a1 * (M14 a0 1 (-1))) + c15) ((x4).toNat))  h) dX0_lookAlong_70 (fun c23 M22 h => ?_)
          refine q_lor C dX0_lookAlong_73 ?_
          refine q_topl (fun v25 ev25 => ?_)
          have h := h v25 ev25
          refine q_lstore (lv' := [(4, .long (gL v25)), (7, .int (gI c15)), (0, .ref (gad a0)), (1, .int (gI a1)), (2, .int (gI a2)), (3, .int (gI a3)), (6, .int (gI x6))]) C (by decide) rfl dX0_lookAlong_74 ?_
          refine q_lv (lv' := [(0, .ref (gad a0)), (1, .int (gI a1)), (2, .int (gI a2)), (3, .int (gI a3)), (4, .long (gL v25)), (6, .int (gI x6))]) [2, 3, 4, 5, 0, 6] rfl ?_
          exact t76 (wX0_lookAlong_11 kd ln post a0 a1 a2 a3 n) hk11_ v25 x6 M22 h
  unfold wX0_lookAlong at h
  refine q_lconst (b := 0) C rfl dX0_lookAlong_0 ?_
  refine q_topl (fun v1 ev1 => ?_)
  have h := h v1 ev1
  refine q_lstore (lv' := [(4, .long (gL v1)), (0, .ref (gad a0)), (1, .int (gI a1)), (2, .int (gI a2)), (3, .int (gI a3))]) C (by decide) rfl dX0_lookAlong_1 ?_
  refine q_aload_n C 1 rfl rfl dX0_lookAlong_3 ?_
  refine q_get (v := .int (gI (M a0 0 (-1)))) C fX0_17 hk0 rfl dX0_lookAlong_4 (fun g2 => ?_)
  have h := h g2
  refine q_iconst C dX0_lookAlong_7 ?_
  refine q_isub C dX0_lookAlong_8 ?_
  refine q_topi (fun v3 ev3 => ?_)
  have h := h v3 ev3
  refine q_istore (lv' := [(6, .int (gI v3)), (4, .long (gL v1)), (0, .ref (gad a0)), (1, .int (gI a1)), (2, .int (gI a2)), (3, .int (gI a3))]) C (by decide) rfl dX0_lookAlong_9 ?_
  refine q_lv (lv' := [(0, .ref (gad a0)), (1, .int (gI a1)), (2, .int (gI a2)), (3, .int (gI a3)), (4, .long (gL v1)), (6, .int (gI v3))]) [2, 3, 4, 5, 1, 0] rfl ?_
  obtain ⟨j11, h⟩ := h
  exact t11  j11 v1 v3 M h
set_option maxHeartbeats 4000000 in
set_option maxRecDepth 100000 in
theorem mX0_lookAround (l : Launch) (D : va_G) (cy : Nat → ClassId) (kd : gKd) (ln : gLn) (rh : gRh) (post : gM → Prop) (a0 : Int) (a1 : Int) (M : gM) (hk0 : kd a0 = 0) (h : wX0_lookAround kd ln post a0 a1 M) : gMV l D cy yX0_lookAround cX0_lookAround 7 2 49 [.ref (gad a0), .int (gI a1)] kd ln rh M post := by
  refine gMV_of (own := RX0) (by decide) rfl (Nat.le_of_ble_eq_true rfl) ?_
  intro p e s m args below meth c A H0 Q C hret
  have t133 : ∀ (k2 : Int → gM → Prop), (∀ (x2 : Int), ∀ (M : gM), k2 x2 M → gW p l e (gRm 2 49) s m args below meth c D cy A H0 Q 7 kd ln rh 0 0 M 2 [(0, .ref (gad a0)), (1, .int (gI a1)), (2, .int (gI x2))] []) → ∀ (k9 : Int → Int → gM → Prop), (∀ (x2 : Int), ∀ (x3 : Int), ∀ (M : gM), k9 x2 x3 M → gW p l e (gRm 2 49) s m args below meth c D cy A H0 Q 7 kd ln rh 0 0 M 9 [(0, .ref (gad a0)), (1, .int (gI a1)), (2, .int (gI x2)), (3, .int (gI x3))] []) → ∀ (x2 : Int) (x3 : Int) (M : gM), wX0_lookAround_133 kd ln post a0 a1 k2 k9 x2 x3 M → gW p l e (gRm 2 49) s m args below meth c D cy A H0 Q 7 kd ln rh 0 0 M 133 [(0, .ref (gad a0)), (1, .int (gI a1)), (2, .int (gI x2)), (3, .int (gI x3))] [] := by
    intro k2 hk2_ k9 hk9_ x2 x3 M h
    unfold wX0_lookAround_133 at h
    refine q_iinc (lv' := [(3, .int (gI (x3 + 1))), (0, .ref (gad a0)), (1, .int (gI a1)), (2, .int (gI x2))]) C 3 rfl (by decide) rfl dX0_lookAround_133 ?_
    refine q_goto (tgt := 9) C (by decide) dX0_lookAround_136 ?_
    refine q_lv (lv' := [(0, .ref (gad a0)), (1, .int (gI a1)), (2, .int (gI x2)), (3, .int (gI (x3 + 1)))]) [1, 2, 3, 0] rfl ?_
    exact hk9_ x2 (x3 + 1) M h
  have t108 : ∀ (k2 : Int → gM → Prop), (∀ (x2 : Int), ∀ (M : gM), k2 x2 M → gW p l e (gRm 2 49) s m args below meth c D cy A H0 Q 7 kd ln rh 0 0 M 2 [(0, .ref (gad a0)), (1, .int (gI a1)), (2, .int (gI x2))] []) → ∀ (k9 : Int → Int → gM → Prop), (∀ (x2 : Int), ∀ (x3 : Int), ∀ (M : gM), k9 x2 x3 M → gW p l e (gRm 2 49) s m args below meth c D cy A H0 Q 7 kd ln rh 0 0 M 9 [(0, .ref (gad a0)), (1, .int (gI a1)), (2, .int (gI x2)), (3, .int (gI x3))] []) → ∀ (x2 : Int) (x3 : Int) (x4 : Int) (M : gM), wX0_lookAround_108 kd ln post a0 a1 k2 k9 x2 x3 x4 M → gW p l e (gRm 2 49) s m args below meth c D cy A H0 Q 7 kd ln rh 0 0 M 108 [(0, .ref (gad a0)), (1, .int (gI a1)), (2, .int (gI x2)), (3, .int (gI x3)), (4, .int (gI x4))] [] := by
    intro k2 hk2_ k9 hk9_ x2 x3 x4 M h
    unfold wX0_lookAround_108 at h
    refine q_iload_n C 2 rfl rfl dX0_lookAround_108 ?_
    refine q_iconst C dX0_lookAround_109 ?_
    obtain ⟨r37, h⟩ := h
    refine q_icmp_ne (tgt := 133) C r37 (show rng 1 by decide) (by decide) dX0_lookAround_110 (fun b38 => ?_) (fun b38 => ?_)
    · have h := h.1 b38
      refine q_lv (lv' := [(0, .ref (gad a0)), (1, .int (gI a1)), (2, .int (gI x2)), (3, .int (gI x3))]) [0, 1, 2, 3] rfl ?_
      exact t133 k2 hk2_ k9 hk9_ x2 x3 M h
    · have h := h.2 b38
      refine q_iload_n C 3 rfl rfl dX0_lookAround_113 ?_
      obtain ⟨r39, h⟩ := h
      refine q_if_eq (tgt := 133) C r39 (by decide) dX0_lookAround_114 (fun b40 => ?_) (fun b40 => ?_)
      · have h := h.1 b40
        refine q_lv (lv' := [(0, .ref (gad a0)), (1, .int (gI a1)), (2, .int (gI x2)), (3, .int (gI x3))]) [0, 1, 2, 3] rfl ?_
        exact t133 k2 hk2_ k9 hk9_ x2 x3 M h
      · have h := h.2 b40
        refine q_aload_n C 0 rfl rfl dX0_lookAround_117 ?_
        obtain ⟨r41, h⟩ := h
        refine q_get (v := .ref (rh a0 7)) C fX0_37 hk0 (if_neg (Int.not_lt.mpr r41)) dX0_lookAround_118 (fun g42 => ?_)
        refine q_iconst C dX0_lookAround_121 ?_
        obtain ⟨r43, h⟩ := h
        refine q_aaldR C hk0 rfl r43 dX0_lookAround_122 ?_
        refine q_iload_n C 1 rfl rfl dX0_lookAround_123 ?_
        refine q_dup2 C rfl rfl dX0_lookAround_124 ?_
        obtain ⟨r44, h⟩ := h
        refine q_lald C hk0 rfl (fun _ q => q) r44 dX0_lookAround_125 (fun g45 => ?_)
        have h := h g45
        refine q_iload C 4 rfl dX0_lookAround_126 ?_
        refine q_callNL (As := [.int (gI x4)]) (st := [.long (gL (BitVec.ofInt 64 (M a0 102 a1))), .int (gI a1), .ref (rh a0 102)]) C vX0_62 kX6_bit ⟨Nat.le_of_ble_eq_true rfl, Nat.le_of_ble_eq_true rfl⟩ ⟨Nat.le_of_ble_eq_true rfl, Nat.le_of_ble_eq_true rfl⟩ rfl rfl (Nat.le_of_ble_eq_true rfl) (mX6_bit l D cy kd ln rh _ x4 M  h) dX0_lookAround_128 (fun c47 M46 h => ?_)
        refine q_lor C dX0_lookAround_131 ?_
        refine q_last C hk0 rfl (rngL ((BitVec.ofInt 64 (M a0 102 a1)) ||| c47)) r44 dX0_lookAround_132 ?_
        refine q_lv (lv' := [(0, .ref (gad a0)), (1, .int (gI a1)), (2, .int (gI x2)), (3, .int (gI x3))]) [0, 1, 2, 3] rfl ?_
        exact t133 k2 hk2_ k9 hk9_ x2 x3 (gu M46 a0 102 a1 (((BitVec.ofInt 64 (M a0 102 a1)) ||| c47).toNat)) h
  have t95 : ∀ (k2 : Int → gM → Prop), (∀ (x2 : Int), ∀ (M : gM), k2 x2 M → gW p l e (gRm 2 49) s m args below meth c D cy A H0 Q 7 kd ln rh 0 0 M 2 [(0, .ref (gad a0)), (1, .int (gI a1)), (2, .int (gI x2))] []) → ∀ (k9 : Int → Int → gM → Prop), (∀ (x2 : Int), ∀ (x3 : Int), ∀ (M : gM), k9 x2 x3 M → gW p l e (gRm 2 49) s m args below meth c D cy A H0 Q 7 kd ln rh 0 0 M 9 [(0, .ref (gad a0)), (1, .int (gI a1)), (2, .int (gI x2)), (3, .int (gI x3))] []) → ∀ (x2 : Int) (x3 : Int) (x4 : Int) (x5 : BitVec 64) (M : gM), wX0_lookAround_95 kd ln post a0 a1 k2 k9 x2 x3 x4 x5 M → gW p l e (gRm 2 49) s m args below meth c D cy A H0 Q 7 kd ln rh 0 0 M 95 [(0, .ref (gad a0)), (1, .int (gI a1)), (2, .int (gI x2)), (3, .int (gI x3)), (4, .int (gI x4)), (5, .long (gL x5))] [] := by
    intro k2 hk2_ k9 hk9_ x2 x3 x4 x5 M h
    unfold wX0_lookAround_95 at h
    refine q_aload_n C 0 rfl rfl dX0_lookAround_95 ?_
    obtain ⟨r49, h⟩ := h
    refine q_get (v := .ref (rh a0 7)) C fX0_37 hk0 (if_neg (Int.not_lt.mpr r49)) dX0_lookAround_96 (fun g50 => ?_)
    refine q_iconst C dX0_lookAround_99 ?_
    obtain ⟨r51, h⟩ := h
    refine q_aaldR C hk0 rfl r51 dX0_lookAround_100 ?_
    refine q_iload_n C 1 rfl rfl dX0_lookAround_101 ?_
    refine q_dup2 C rfl rfl dX0_lookAround_102 ?_
    obtain ⟨r52, h⟩ := h
    refine q_lald C hk0 rfl (fun _ q => q) r52 dX0_lookAround_103 (fun g53 => ?_)
    have h := h g53
    refine q_lload C 5 rfl dX0_lookAround_104 ?_
    refine q_lor C dX0_lookAround_106 ?_
    refine q_last C hk0 rfl (rngL ((BitVec.ofInt 64 (M a0 101 a1)) ||| x5)) r52 dX0_lookAround_107 ?_
    refine q_lv (lv' := [(0, .ref (gad a0)), (1, .int (gI a1)), (2, .int (gI x2)), (3, .int (gI x3)), (4, .int (gI x4))]) [0, 1, 2, 3, 4] rfl ?_
    exact t108 k2 hk2_ k9 hk9_ x2 x3 x4 (gu M a0 101 a1 (((BitVec.ofInt 64 (M a0 101 a1)) ||| x5).toNat)) h
  have t9 : ∀ (k2 : Int → gM → Prop), (∀ (x2 : Int), ∀ (M : gM), k2 x2 M → gW p l e (gRm 2 49) s m args below meth c D cy A H0 Q 7 kd ln rh 0 0 M 2 [(0, .ref (gad a0)), (1, .int (gI a1)), (2, .int (gI x2))] []) → ∀ (n : Nat) (x2 : Int) (x3 : Int) (M : gM), wX0_lookAround_9 kd ln post a0 a1 k2 n x2 x3 M → gW p l e (gRm 2 49) s m args below meth c D cy A H0 Q 7 kd ln rh 0 0 M 9 [(0, .ref (gad a0)), (1, .int (gI a1)), (2, .int (gI x2)), (3, .int (gI x3))] [] := by
    intro k2 hk2_
    intro n
    induction n with
    | zero => intro x2 x3 M h; exact absurd h (by simp [wX0_lookAround_9])
    | succ n ih =>
      intro x2 x3 M h
      have hk9_ := ih
      rw [wX0_lookAround_9] at h
      refine q_iload_n C 3 rfl rfl dX0_lookAround_9 ?_
      refine q_iconst C dX0_lookAround_10 ?_
      obtain ⟨r3, h⟩ := h
      refine q_icmp_gt (tgt := 139) C r3 (show rng 1 by decide) (by decide) dX0_lookAround_11 (fun b4 => ?_) (fun b4 => ?_)
      · have h := h.1 b4
        refine q_iinc (lv' := [(2, .int (gI (x2 + 1))), (0, .ref (gad a0)), (1, .int (gI a1)), (3, .int (gI x3))]) C 2 rfl (by decide) rfl dX0_lookAround_139 ?_
        refine q_goto (tgt := 2) C (by decide) dX0_lookAround_142 ?_
        refine q_lv (lv' := [(0, .ref (gad a0)), (1, .int (gI a1)), (2, .int (gI (x2 + 1)))]) [1, 2, 0] rfl ?_
        exact hk2_ (x2 + 1) M h
      · have h := h.2 b4
        refine q_aload_n C 0 rfl rfl dX0_lookAround_14 ?_
        refine q_aload_n C 0 rfl rfl dX0_lookAround_15 ?_
        obtain ⟨r5, h⟩ := h
        refine q_get (v := .ref (rh a0 2)) C fX0_24 hk0 (if_neg (Int.not_lt.mpr r5)) dX0_lookAround_16 (fun g6 => ?_)
        refine q_iload_n C 1 rfl rfl dX0_lookAround_19 ?_
        obtain ⟨r7, h⟩ := h
        refine q_iald C hk0 rfl (fun _ q => q) r7 dX0_lookAround_20 (fun g8 => ?_)
        have h := h g8
        refine q_iload_n C 2 rfl rfl dX0_lookAround_21 ?_
        refine q_iadd C dX0_lookAround_22 ?_
        refine q_aload_n C 0 rfl rfl dX0_lookAround_23 ?_
        obtain ⟨r9, h⟩ := h
        refine q_get (v := .ref (rh a0 3)) C fX0_28 hk0 (if_neg (Int.not_lt.mpr r9)) dX0_lookAround_24 (fun g10 => ?_)
        refine q_iload_n C 1 rfl rfl dX0_lookAround_27 ?_
        obtain ⟨r11, h⟩ := h
        refine q_iald C hk0 rfl (fun _ q => q) r11 dX0_lookAround_28 (fun g12 => ?_)
        have h := h g12
        refine q_iload_n C 3 rfl rfl dX0_lookAround_29 ?_
        refine q_iadd C dX0_lookAround_30 ?_
        refine q_callVI (As := [.int (gI ((M a0 2 a1) + x2)), .int (gI ((M a0 3 a1) + x3))]) (st := []) C vX0_46 kX0_squareAt ⟨Nat.le_of_ble_eq_true rfl, Nat.le_of_ble_eq_true rfl⟩ ⟨Nat.le_of_ble_eq_true rfl, Nat.le_of_ble_eq_true rfl⟩ rfl hk0 ⟨_, _, rfl⟩ (by decide) rfl (Nat.le_of_ble_eq_true rfl) (mX0_squareAt l D cy kd ln rh _ a0 ((M a0 2 a1) + x2) ((M a0 3 a1) + x3) M hk0 h) dX0_lookAround_31 (fun c14 M13 g15 h => ?_)
        have h := h g15
        refine q_istore (lv' := [(4, .int (gI c14)), (0, .ref (gad a0)), (1, .int (gI a1)), (2, .int (gI x2)), (3, .int (gI x3))]) C (by decide) rfl dX0_lookAround_34 ?_
        refine q_iload C 0 rfl dX0_lookAround_36 ?_
        refine q_iconst C dX0_lookAround_38 ?_
        refine q_icmp_eq (tgt := 133) C g15 (show rng (-1) by decide) (by decide) dX0_lookAround_39 (fun b16 => ?_) (fun b16 => ?_)
        · have h := h.1 b16
          refine q_lv (lv' := [(0, .ref (gad a0)), (1, .int (gI a1)), (2, .int (gI x2)), (3, .int (gI x3))]) [1, 2, 3, 4] rfl ?_
          exact t133 k2 hk2_ (wX0_lookAround_9 kd ln post a0 a1 k2 n) hk9_ x2 x3 M13 h
        · have h := h.2 b16
          refine q_iload C 0 rfl dX0_lookAround_42 ?_
          refine q_iload_n C 2 rfl rfl dX0_lookAround_44 ?_
          obtain ⟨r17, h⟩ := h
          refine q_icmp_ne (tgt := 51) C g15 r17 (by decide) dX0_lookAround_45 (fun b18 => ?_) (fun b18 => ?_)
          · have h := h.1 b18
            refine q_aload_n C 1 rfl rfl dX0_lookAround_51 ?_
            obtain ⟨r19, h⟩ := h
            refine q_get (v := .ref (rh a0 6)) C fX0_31 hk0 (if_neg (Int.not_lt.mpr r19)) dX0_lookAround_52 (fun g20 => ?_)
            refine q_iload_n C 2 rfl rfl dX0_lookAround_55 ?_
            refine q_dup2 C rfl rfl dX0_lookAround_56 ?_
            obtain ⟨r21, h⟩ := h
            refine q_lald C hk0 rfl (fun _ q => q) r21 dX0_lookAround_57 (fun g22 => ?_)
            have h := h g22
            refine q_iload C 0 rfl dX0_lookAround_58 ?_
            refine q_callNL (As := [.int (gI c14)]) (st := [.long (gL (BitVec.ofInt 64 (M13 a0 6 a1))), .int (gI a1), .ref (rh a0 6)]) C vX0_62 kX6_bit ⟨Nat.le_of_ble_eq_true rfl, Nat.le_of_ble_eq_true rfl⟩ ⟨Nat.le_of_ble_eq_true rfl, Nat.le_of_ble_eq_true rfl⟩ rfl rfl (Nat.le_of_ble_eq_true rfl) (mX6_bit l D cy kd ln rh _ c14 M13  h) dX0_lookAround_60 (fun c24 M23 h => ?_)
            refine q_lor C dX0_lookAround_63 ?_
            refine q_last C hk0 rfl (rngL ((BitVec.ofInt 64 (M13 a0 6 a1)) ||| c24)) r21 dX0_lookAround_64 ?_
            refine q_aload_n C 1 rfl rfl dX0_lookAround_65 ?_
            refine q_iload_n C 2 rfl rfl dX0_lookAround_66 ?_
            refine q_iload_n C 3 rfl rfl dX0_lookAround_67 ?_
            refine q_iload_n C 4 rfl rfl dX0_lookAround_68 ?_
            refine q_callVL (As := [.int (gI a1), .int (gI x2), .int (gI x3)]) (st := []) C vX0_66 kX0_lookAlong ⟨Nat.le_of_ble_eq_true rfl, Nat.le_of_ble_eq_true rfl⟩ ⟨Nat.le_of_ble_eq_true rfl, Nat.le_of_ble_eq_true rfl⟩ rfl hk0 ⟨_, _, rfl⟩ (by decide) rfl (Nat.le_of_ble_eq_true rfl) (mX0_lookAlong l D cy kd ln rh _ a0 a1 x2 x3 (gu M23 a0 6 a1 (((BitVec.ofInt 64 (M13 a0 6 a1)) ||| c24).toNat)) hk0 h) dX0_lookAround_69 (fun c27 M26 h => ?_)
            refine q_lstore (lv' := [(5, .long (gL c27)), (4, .int (gI c14)), (0, .ref (gad a0)), (1, .int (gI a1)), (2, .int (gI x2)), (3, .int (gI x3))]) C (by decide) rfl dX0_lookAround_72 ?_
            refine q_aload_n C 2 rfl rfl dX0_lookAround_74 ?_
            obtain ⟨r29, h⟩ := h
            refine q_get (v := .ref (rh a0 7)) C fX0_37 hk0 (if_neg (Int.not_lt.mpr r29)) dX0_lookAround_75 (fun g30 => ?_)
            refine q_iconst C dX0_lookAround_78 ?_
            obtain ⟨r31, h⟩ := h
            refine q_aaldR C hk0 rfl r31 dX0_lookAround_79 ?_
            refine q_iload_n C 3 rfl rfl dX0_lookAround_80 ?_
            refine q_dup2 C rfl rfl dX0_lookAround_81 ?_
            obtain ⟨r32, h⟩ := h
            refine q_lald C hk0 rfl (fun _ q => q) r32 dX0_lookAround_82 (fun g33 => ?_)
            have h := h g33
            refine q_lload C 0 rfl dX0_lookAround_83 ?_
            refine q_lor C dX0_lookAround_85 ?_
            refine q_last C hk0 rfl (rngL ((BitVec.ofInt 64 (M26 a0 100 a1)) ||| c27)) r32 dX0_lookAround_86 ?_
            refine q_iload_n C 4 rfl rfl dX0_lookAround_87 ?_
            obtain ⟨r34, h⟩ := h
            refine q_if_eq (tgt := 95) C r34 (by decide) dX0_lookAround_88 (fun b35 => ?_) (fun b35 => ?_)
            · have h := h.1 b35
              refine q_lv (lv' := [(0, .ref (gad a0)), (1, .int (gI a1)), (2, .int (gI x2)), (3, .int (gI x3)), (4, .int (gI c14)), (5, .long (gL c27))]) [2, 3, 4, 5, 1, 0] rfl ?_
              exact t95 k2 hk2_ (wX0_lookAround_9 kd ln post a0 a1 k2 n) hk9_ x2 x3 c14 c27 (gu M26 a0 100 a1 (((BitVec.ofInt 64 (M26 a0 100 a1)) ||| c27).toNat)) h
            · have h := h.2 b35
              refine q_iload_n C 5 rfl rfl dX0_lookAround_91 ?_
              refine q_if_ne (tgt := 108) C r3 (by decide) dX0_lookAround_92 (fun b36 => ?_) (fun b36 => ?_)
              · have h := h.1 b36
                refine q_lv (lv' := [(0, .ref (gad a0)), (1, .int (gI a1)), (2, .int (gI x2)), (3, .int (gI x3)), (4, .int (gI c14))]) [2, 3, 4, 5, 1] rfl ?_
                exact t108 k2 hk2_ (wX0_lookAround_9 kd ln post a0 a1 k2 n) hk9_ x2 x3 c14 (gu M26 a0 100 a1 (((BitVec.ofInt 64 (M26 a0 100 a1)) ||| c27).toNat)) h
              · have h := h.2 b36
                refine q_lv (lv' := [(0, .ref (gad a0)), (1, .int (gI a1)), (2, .int (gI x2)), (3, .int (gI x3)), (4, .int (gI c14)), (5, .long (gL c27))]) [2, 3, 4, 5, 1, 0] rfl ?_
                exact t95 k2 hk2_ (wX0_lookAround_9 kd ln post a0 a1 k2 n) hk9_ x2 x3 c14 c27 (gu M26 a0 100 a1 (((BitVec.ofInt 64 (M26 a0 100 a1)) ||| c27).toNat)) h
          · have h := h.2 b18
            refine q_goto (tgt := 133) C (by decide) dX0_lookAround_48 ?_
            refine q_lv (lv' := [(0, .ref (gad a0)), (1, .int (gI a1)), (2, .int (gI x2)), (3, .int (gI x3))]) [1, 2, 3, 4] rfl ?_
            exact t133 k2 hk2_ (wX0_lookAround_9 kd ln post a0 a1 k2 n) hk9_ x2 x3 M13 h
  have t2 : ∀ (n : Nat) (x2 : Int) (M : gM), wX0_lookAround_2 kd ln post a0 a1 n x2 M → gW p l e (gRm 2 49) s m args below meth c D cy A H0 Q 7 kd ln rh 0 0 M 2 [(0, .ref (gad a0)), (1, .int (gI a1)), (2, .int (gI x2))] [] := by
    intro n
    induction n with
    | zero => intro x2 M h; exact absurd h (by simp [wX0_lookAround_2])
    | succ n ih =>
      intro x2 M h
      have hk2_ := ih
      rw [wX0_lookAround_2] at h
      refine q_iload_n C 2 rfl rfl dX0_lookAround_2 ?_
      refine q_iconst C dX0_lookAround_3 ?_
      obtain ⟨r1, h⟩ := h
      refine q_icmp_gt (tgt := 145) C r1 (show rng 1 by decide) (by decide) dX0_lookAround_4 (fun b2 => ?_) (fun b2 => ?_)
      · have h := h.1 b2
        exact hret M _ _ dX0_lookAround_145 h
      · have h := h.2 b2
        refine q_iconst C dX0_lookAround_7 ?_
        refine q_istore_n (lv' := [(3, .int (gI (-1))), (0, .ref (gad a0)), (1, .int (gI a1)), (2, .int (gI x2))]) C rfl (by decide) rfl dX0_lookAround_8 ?_
        refine q_lv (lv' := [(0, .ref (gad a0)), (1, .int (gI a1)), (2, .int (gI x2)), (3, .int (gI (-1)))]) [1, 2, 3, 0] rfl ?_
        obtain ⟨j9, h⟩ := h
        exact t9 (wX0_lookAround_2 kd ln post a0 a1 n) hk2_ j9 x2 (-1) M h
  unfold wX0_lookAround at h
  refine q_iconst C dX0_lookAround_0 ?_
  refine q_istore_n (lv' := [(2, .int (gI (-1))), (0, .ref (gad a0)), (1, .int (gI a1))]) C rfl (by decide) rfl dX0_lookAround_1 ?_
  refine q_lv (lv' := [(0, .ref (gad a0)), (1, .int (gI a1)), (2, .int (gI (-1)))]) [1, 2, 0] rfl ?_
  obtain ⟨j2, h⟩ := h
  exact t2  j2 (-1) M h
set_option maxHeartbeats 4000000 in
set_option maxRecDepth 100000 in
theorem mX0_imageOf (l : Launch) (D : va_G) (cy : Nat → ClassId) (kd : gKd) (ln : gLn) (rh : gRh) (post : Int → gM → Prop) (a0 : Int) (a1 : Int) (a2 : Int) (a3 : Int) (M : gM) (hk0 : kd a0 = 0) (h : wX0_imageOf kd ln post a0 a1 a2 a3 M) : gMI l D cy yX0_imageOf cX0_imageOf 7 .int 1 22 [.ref (gad a0), .int (gI a1), .int (gI a2), .int (gI a3)] kd ln rh M post := by
  refine gMI_of (own := RX0) (by decide) rfl (Nat.le_of_ble_eq_true rfl) ?_
  intro p e s m args below meth c A H0 Q C hret
  have t58 : ∀ (x6 : Int) (y0 : Int) (M : gM), wX0_imageOf_58 kd ln post a0 a1 a2 a3 x6 y0 M → gW p l e (gRm 1 22) s m args below meth c D cy A H0 Q 7 kd ln rh 0 0 M 58 [(0, .ref (gad a0)), (1, .int (gI a1)), (6, .int (gI x6))] [.int (gI y0), .ref (gad a0)] := by
    intro  x6 y0 M h
    unfold wX0_imageOf_58 at h
    refine q_iload_n C 1 rfl rfl dX0_imageOf_58 ?_
    refine q_iconst C dX0_imageOf_59 ?_
    refine q_iand C dX0_imageOf_60 ?_
    obtain ⟨r10, h⟩ := h
    refine q_if_eq (tgt := 76) C r10 (by decide) dX0_imageOf_61 (fun b11 => ?_) (fun b11 => ?_)
    · have h := h.1 b11
      refine q_iload C 2 rfl dX0_imageOf_76 ?_
      refine q_callVI (As := [.int (gI y0), .int (gI x6)]) (st := []) C vX0_46 kX0_squareAt ⟨Nat.le_of_ble_eq_true rfl, Nat.le_of_ble_eq_true rfl⟩ ⟨Nat.le_of_ble_eq_true rfl, Nat.le_of_ble_eq_true rfl⟩ rfl hk0 ⟨_, _, rfl⟩ (by decide) rfl (Nat.le_of_ble_eq_true rfl) (mX0_squareAt l D cy kd ln rh _ a0 y0 x6 M hk0 h) dX0_imageOf_78 (fun c13 M12 g14 h => ?_)
      have h := h g14
      exact hret c13 M12 _ _ dX0_imageOf_81 g14 h
    · have h := h.2 b11
      refine q_aload_n C 0 rfl rfl dX0_imageOf_64 ?_
      refine q_get (v := .int (gI (M a0 0 (-1)))) C fX0_17 hk0 rfl dX0_imageOf_65 (fun g15 => ?_)
      have h := h g15
      refine q_iconst C dX0_imageOf_68 ?_
      refine q_isub C dX0_imageOf_69 ?_
      refine q_iload C 2 rfl dX0_imageOf_70 ?_
      refine q_isub C dX0_imageOf_72 ?_
      refine q_goto (tgt := 78) C (by decide) dX0_imageOf_73 ?_
      refine q_callVI (As := [.int (gI y0), .int (gI (((M a0 0 (-1)) - 1) - x6))]) (st := []) C vX0_46 kX0_squareAt ⟨Nat.le_of_ble_eq_true rfl, Nat.le_of_ble_eq_true rfl⟩ ⟨Nat.le_of_ble_eq_true rfl, Nat.le_of_ble_eq_true rfl⟩ rfl hk0 ⟨_, _, rfl⟩ (by decide) rfl (Nat.le_of_ble_eq_true rfl) (mX0_squareAt l D cy kd ln rh _ a0 y0 (((M a0 0 (-1)) - 1) - x6) M hk0 h) dX0_imageOf_78 (fun c17 M16 g18 h => ?_)
      have h := h g18
      exact hret c17 M16 _ _ dX0_imageOf_81 g18 h
  have t35 : ∀ (x5 : Int) (y0 : Int) (M : gM), wX0_imageOf_35 kd ln post a0 a1 a2 a3 x5 y0 M → gW p l e (gRm 1 22) s m args below meth c D cy A H0 Q 7 kd ln rh 0 0 M 35 [(0, .ref (gad a0)), (1, .int (gI a1)), (5, .int (gI x5))] [.int (gI y0)] := by
    intro  x5 y0 M h
    unfold wX0_imageOf_35 at h
    refine q_istore (lv' := [(6, .int (gI y0)), (0, .ref (gad a0)), (1, .int (gI a1)), (5, .int (gI x5))]) C (by decide) rfl dX0_imageOf_35 ?_
    refine q_aload_n C 1 rfl rfl dX0_imageOf_37 ?_
    refine q_iload_n C 2 rfl rfl dX0_imageOf_38 ?_
    refine q_iconst C dX0_imageOf_39 ?_
    refine q_iand C dX0_imageOf_40 ?_
    obtain ⟨r7, h⟩ := h
    refine q_if_eq (tgt := 56) C r7 (by decide) dX0_imageOf_41 (fun b8 => ?_) (fun b8 => ?_)
    · have h := h.1 b8
      refine q_iload C 3 rfl dX0_imageOf_56 ?_
      refine q_lv (lv' := [(0, .ref (gad a0)), (1, .int (gI a1)), (6, .int (gI y0))]) [1, 2, 0] rfl ?_
      exact t58  y0 x5 M h
    · have h := h.2 b8
      refine q_aload_n C 1 rfl rfl dX0_imageOf_44 ?_
      refine q_get (v := .int (gI (M a0 0 (-1)))) C fX0_17 hk0 rfl dX0_imageOf_45 (fun g9 => ?_)
      have h := h g9
      refine q_iconst C dX0_imageOf_48 ?_
      refine q_isub C dX0_imageOf_49 ?_
      refine q_iload C 3 rfl dX0_imageOf_50 ?_
      refine q_isub C dX0_imageOf_52 ?_
      refine q_goto (tgt := 58) C (by decide) dX0_imageOf_53 ?_
      refine q_lv (lv' := [(0, .ref (gad a0)), (1, .int (gI a1)), (6, .int (gI y0))]) [1, 2, 0] rfl ?_
      exact t58  y0 (((M a0 0 (-1)) - 1) - x5) M h
  have t23 : ∀ (x4 : Int) (y0 : Int) (M : gM), wX0_imageOf_23 kd ln post a0 a1 a2 a3 x4 y0 M → gW p l e (gRm 1 22) s m args below meth c D cy A H0 Q 7 kd ln rh 0 0 M 23 [(0, .ref (gad a0)), (1, .int (gI a1)), (2, .int (gI a2)), (3, .int (gI a3)), (4, .int (gI x4))] [.int (gI y0)] := by
    intro  x4 y0 M h
    unfold wX0_imageOf_23 at h
    refine q_istore (lv' := [(5, .int (gI y0)), (0, .ref (gad a0)), (1, .int (gI a1)), (2, .int (gI a2)), (3, .int (gI a3)), (4, .int (gI x4))]) C (by decide) rfl dX0_imageOf_23 ?_
    refine q_iload C 5 rfl dX0_imageOf_25 ?_
    obtain ⟨r5, h⟩ := h
    refine q_if_eq (tgt := 34) C r5 (by decide) dX0_imageOf_27 (fun b6 => ?_) (fun b6 => ?_)
    · have h := h.1 b6
      refine q_iload_n C 4 rfl rfl dX0_imageOf_34 ?_
      refine q_lv (lv' := [(0, .ref (gad a0)), (1, .int (gI a1)), (5, .int (gI y0))]) [1, 2, 0] rfl ?_
      exact t35  y0 a3 M h
    · have h := h.2 b6
      refine q_iload_n C 3 rfl rfl dX0_imageOf_30 ?_
      refine q_goto (tgt := 35) C (by decide) dX0_imageOf_31 ?_
      refine q_lv (lv' := [(0, .ref (gad a0)), (1, .int (gI a1)), (5, .int (gI y0))]) [1, 2, 0] rfl ?_
      exact t35  y0 a2 M h
  have t11 : ∀ (y0 : Int) (M : gM), wX0_imageOf_11 kd ln post a0 a1 a2 a3 y0 M → gW p l e (gRm 1 22) s m args below meth c D cy A H0 Q 7 kd ln rh 0 0 M 11 [(0, .ref (gad a0)), (1, .int (gI a1)), (2, .int (gI a2)), (3, .int (gI a3))] [.int (gI y0)] := by
    intro  y0 M h
    unfold wX0_imageOf_11 at h
    refine q_istore (lv' := [(4, .int (gI y0)), (0, .ref (gad a0)), (1, .int (gI a1)), (2, .int (gI a2)), (3, .int (gI a3))]) C (by decide) rfl dX0_imageOf_11 ?_
    refine q_iload C 0 rfl dX0_imageOf_13 ?_
    obtain ⟨r3, h⟩ := h
    refine q_if_eq (tgt := 22) C r3 (by decide) dX0_imageOf_15 (fun b4 => ?_) (fun b4 => ?_)
    · have h := h.1 b4
      refine q_iload_n C 3 rfl rfl dX0_imageOf_22 ?_
      refine q_lv (lv' := [(0, .ref (gad a0)), (1, .int (gI a1)), (2, .int (gI a2)), (3, .int (gI a3)), (4, .int (gI y0))]) [1, 2, 3, 4, 0] rfl ?_
      exact t23  y0 a2 M h
    · have h := h.2 b4
      refine q_iload_n C 4 rfl rfl dX0_imageOf_18 ?_
      refine q_goto (tgt := 23) C (by decide) dX0_imageOf_19 ?_
      refine q_lv (lv' := [(0, .ref (gad a0)), (1, .int (gI a1)), (2, .int (gI a2)), (3, .int (gI a3)), (4, .int (gI y0))]) [1, 2, 3, 4, 0] rfl ?_
      exact t23  y0 a3 M h
  unfold wX0_imageOf at h
  refine q_iload_n C 1 rfl rfl dX0_imageOf_0 ?_
  refine q_iconst C dX0_imageOf_1 ?_
  refine q_iand C dX0_imageOf_2 ?_
  obtain ⟨r1, h⟩ := h
  refine q_if_eq (tgt := 10) C r1 (by decide) dX0_imageOf_3 (fun b2 => ?_) (fun b2 => ?_)
  · have h := h.1 b2
    refine q_iconst C dX0_imageOf_10 ?_
    exact t11  0 M h
  · have h := h.2 b2
    refine q_iconst C dX0_imageOf_6 ?_
    refine q_goto (tgt := 11) C (by decide) dX0_imageOf_7 ?_
    exact t11  1 M h
set_option maxHeartbeats 4000000 in
set_option maxRecDepth 100000 in
theorem mX0_enter (l : Launch) (D : va_G) (cy : Nat → ClassId) (kd : gKd) (ln : gLn) (rh : gRh) (post : gM → Prop) (a0 : Int) (a1 : Int) (a2 : Int) (a3 : Int) (M : gM) (hk0 : kd a0 = 0) (h : wX0_enter kd ln post a0 a1 a2 a3 M) : gMV l D cy yX0_enter cX0_enter 5 3 75 [.ref (gad a0), .int (gI a1), .int (gI a2), .int (gI a3)] kd ln rh M post := by
  refine gMV_of (own := RX0) (by decide) rfl (Nat.le_of_ble_eq_true rfl) ?_
  intro p e s m args below meth c A H0 Q C hret
  have t22 : ∀ (n : Nat) (x4 : Int) (M : gM), wX0_enter_22 kd ln post a0 a1 a2 a3 n x4 M → gW p l e (gRm 3 75) s m args below meth c D cy A H0 Q 5 kd ln rh 0 0 M 22 [(0, .ref (gad a0)), (1, .int (gI a1)), (2, .int (gI a2)), (3, .int (gI a3)), (4, .int (gI x4))] [] := by
    intro n
    induction n with
    | zero => intro x4 M h; exact absurd h (by simp [wX0_enter_22])
    | succ n ih =>
      intro x4 M h
      have hk22_ := ih
      rw [wX0_enter_22] at h
      refine q_iload C 4 rfl dX0_enter_22 ?_
      refine q_bipush C (by decide) dX0_enter_24 ?_
      obtain ⟨r12, h⟩ := h
      refine q_icmp_ge (tgt := 57) C r12 (show rng 8 by decide) (by decide) dX0_enter_26 (fun b13 => ?_) (fun b13 => ?_)
      · have h := h.1 b13
        exact hret M _ _ dX0_enter_57 h
      · have h := h.2 b13
        refine q_aload_n C 0 rfl rfl dX0_enter_29 ?_
        obtain ⟨r14, h⟩ := h
        refine q_get (v := .ref (rh a0 4)) C fX0_43 hk0 (if_neg (Int.not_lt.mpr r14)) dX0_enter_30 (fun g15 => ?_)
        refine q_iload C 4 rfl dX0_enter_33 ?_
        refine q_aload_n C 0 rfl rfl dX0_enter_35 ?_
        refine q_get (v := .int (gI (M a0 1 (-1)))) C fX0_21 hk0 rfl dX0_enter_36 (fun g16 => ?_)
        have h := h g16
        refine q_imul C dX0_enter_39 ?_
        refine q_iload_n C 1 rfl rfl dX0_enter_40 ?_
        refine q_iadd C dX0_enter_41 ?_
        refine q_aload_n C 0 rfl rfl dX0_enter_42 ?_
        refine q_iload C 4 rfl dX0_enter_43 ?_
        refine q_iload_n C 2 rfl rfl dX0_enter_45 ?_
        refine q_iload_n C 3 rfl rfl dX0_enter_46 ?_
        refine q_callVI (As := [.int (gI x4), .int (gI a2), .int (gI a3)]) (st := [.int (gI ((x4 * (M a0 1 (-1))) + a1)), .ref (rh a0 4)]) C vX0_58 kX0_imageOf ⟨Nat.le_of_ble_eq_true rfl, Nat.le_of_ble_eq_true rfl⟩ ⟨Nat.le_of_ble_eq_true rfl, Nat.le_of_ble_eq_true rfl⟩ rfl hk0 ⟨_, _, rfl⟩ (by decide) rfl (Nat.le_of_ble_eq_true rfl) (mX0_imageOf l D cy kd ln rh _ a0 x4 a2 a3 M hk0 h) dX0_enter_47 (fun c18 M17 g19 h => ?_)
        have h := h g19
        obtain ⟨r20, h⟩ := h
        refine q_iast C hk0 rfl g19 r20 dX0_enter_50 ?_
        refine q_iinc (lv' := [(4, .int (gI (x4 + 1))), (0, .ref (gad a0)), (1, .int (gI a1)), (2, .int (gI a2)), (3, .int (gI a3))]) C 4 rfl (by decide) rfl dX0_enter_51 ?_
        refine q_goto (tgt := 22) C (by decide) dX0_enter_54 ?_
        refine q_lv (lv' := [(0, .ref (gad a0)), (1, .int (gI a1)), (2, .int (gI a2)), (3, .int (gI a3)), (4, .int (gI (x4 + 1)))]) [1, 2, 3, 4, 0] rfl ?_
        exact hk22_ (x4 + 1) (gu M17 a0 4 ((x4 * (M a0 1 (-1))) + a1) c18) h
  unfold wX0_enter at h
  refine q_aload_n C 0 rfl rfl dX0_enter_0 ?_
  obtain ⟨r1, h⟩ := h
  refine q_get (v := .ref (rh a0 2)) C fX0_24 hk0 (if_neg (Int.not_lt.mpr r1)) dX0_enter_1 (fun g2 => ?_)
  refine q_iload_n C 1 rfl rfl dX0_enter_4 ?_
  refine q_iload_n C 2 rfl rfl dX0_enter_5 ?_
  obtain ⟨r3, h⟩ := h
  obtain ⟨r4, h⟩ := h
  refine q_iast C hk0 rfl r4 r3 dX0_enter_6 ?_
  refine q_aload_n C 0 rfl rfl dX0_enter_7 ?_
  obtain ⟨r5, h⟩ := h
  refine q_get (v := .ref (rh a0 3)) C fX0_28 hk0 (if_neg (Int.not_lt.mpr r5)) dX0_enter_8 (fun g6 => ?_)
  refine q_iload_n C 1 rfl rfl dX0_enter_11 ?_
  refine q_iload_n C 3 rfl rfl dX0_enter_12 ?_
  obtain ⟨r7, h⟩ := h
  obtain ⟨r8, h⟩ := h
  refine q_iast C hk0 rfl r8 r7 dX0_enter_13 ?_
  refine q_aload_n C 0 rfl rfl dX0_enter_14 ?_
  refine q_iload_n C 1 rfl rfl dX0_enter_15 ?_
  refine q_callVV (As := [.int (gI a1)]) (st := []) C vX0_54 kX0_lookAround ⟨Nat.le_of_ble_eq_true rfl, Nat.le_of_ble_eq_true rfl⟩ ⟨Nat.le_of_ble_eq_true rfl, Nat.le_of_ble_eq_true rfl⟩ rfl hk0 ⟨_, _, rfl⟩ (by decide) rfl (Nat.le_of_ble_eq_true rfl) (mX0_lookAround l D cy kd ln rh _ a0 a1 (gu (gu M a0 2 a1 a2) a0 3 a1 a3) hk0 h) dX0_enter_16 (fun M9 h => ?_)
  refine q_iconst C dX0_enter_19 ?_
  refine q_istore (lv' := [(4, .int (gI 0)), (0, .ref (gad a0)), (1, .int (gI a1)), (2, .int (gI a2)), (3, .int (gI a3))]) C (by decide) rfl dX0_enter_20 ?_
  refine q_lv (lv' := [(0, .ref (gad a0)), (1, .int (gI a1)), (2, .int (gI a2)), (3, .int (gI a3)), (4, .int (gI 0))]) [1, 2, 3, 4, 0] rfl ?_
  obtain ⟨j22, h⟩ := h
  exact t22  j22 0 M9 h
set_option maxHeartbeats 4000000 in
set_option maxRecDepth 100000 in
theorem mX0_glides (l : Launch) (D : va_G) (cy : Nat → ClassId) (kd : gKd) (ln : gLn) (rh : gRh) (post : BitVec 64 → gM → Prop) (a0 : Int) (a1 : Int) (a2 : Int) (a3 : Int) (a4 : Int) (M : gM) (hk0 : kd a0 = 0) (h : wX0_glides kd ln post a0 a1 a2 a3 a4 M) : gML l D cy yX0_glides cX0_glides 5 1 23 [.ref (gad a0), .int (gI a1), .int (gI a2), .int (gI a3), .int (gI a4)] kd ln rh M post := by
  refine gML_of (own := RX0) (by decide) rfl (Nat.le_of_ble_eq_true rfl) ?_
  intro p e s m args below meth c A H0 Q C hret
  unfold wX0_glides at h
  refine q_aload_n C 0 rfl rfl dX0_glides_0 ?_
  refine q_iload_n C 1 rfl rfl dX0_glides_1 ?_
  refine q_iload_n C 2 rfl rfl dX0_glides_2 ?_
  refine q_iload C 4 rfl dX0_glides_3 ?_
  refine q_callVL (As := [.int (gI a1), .int (gI a2), .int (gI a4)]) (st := []) C vX0_89 kX0_sight ⟨Nat.le_of_ble_eq_true rfl, Nat.le_of_ble_eq_true rfl⟩ ⟨Nat.le_of_ble_eq_true rfl, Nat.le_of_ble_eq_true rfl⟩ rfl hk0 ⟨_, _, rfl⟩ (by decide) rfl (Nat.le_of_ble_eq_true rfl) (mX0_sight l D cy kd ln rh _ a0 a1 a2 a4 M hk0 h) dX0_glides_5 (fun c2 M1 h => ?_)
  refine q_aload_n C 0 rfl rfl dX0_glides_8 ?_
  obtain ⟨r4, h⟩ := h
  refine q_get (v := .ref (rh a0 8)) C fX0_40 hk0 (if_neg (Int.not_lt.mpr r4)) dX0_glides_9 (fun g5 => ?_)
  refine q_iload C 4 rfl dX0_glides_12 ?_
  refine q_aload_n C 0 rfl rfl dX0_glides_14 ?_
  refine q_get (v := .int (gI (M1 a0 1 (-1)))) C fX0_21 hk0 rfl dX0_glides_15 (fun g6 => ?_)
  have h := h g6
  refine q_imul C dX0_glides_18 ?_
  refine q_iload_n C 3 rfl rfl dX0_glides_19 ?_
  refine q_iadd C dX0_glides_20 ?_
  obtain ⟨r7, h⟩ := h
  refine q_lald C hk0 rfl (fun _ q => q) r7 dX0_glides_21 (fun g8 => ?_)
  have h := h g8
  refine q_ldc2 (b := 18446744073709551615) C nX0_92 (by decide) dX0_glides_22 ?_
  refine q_lxor C dX0_glides_25 ?_
  refine q_land C dX0_glides_26 ?_
  refine q_iload_n C 2 rfl rfl dX0_glides_27 ?_
  refine q_callNL (As := [.int (gI a2)]) (st := [.long (gL (c2 &&& ((BitVec.ofInt 64 (M1 a0 8 ((a4 * (M1 a0 1 (-1))) + a3))) ^^^ (18446744073709551615 : BitVec 64))))]) C vX0_62 kX6_bit ⟨Nat.le_of_ble_eq_true rfl, Nat.le_of_ble_eq_true rfl⟩ ⟨Nat.le_of_ble_eq_true rfl, Nat.le_of_ble_eq_true rfl⟩ rfl rfl (Nat.le_of_ble_eq_true rfl) (mX6_bit l D cy kd ln rh _ a2 M1  h) dX0_glides_28 (fun c10 M9 h => ?_)
  refine q_ldc2 (b := 18446744073709551615) C nX0_92 (by decide) dX0_glides_31 ?_
  refine q_lxor C dX0_glides_34 ?_
  refine q_land C dX0_glides_35 ?_
  refine q_iload_n C 3 rfl rfl dX0_glides_36 ?_
  refine q_callNL (As := [.int (gI a3)]) (st := [.long (gL ((c2 &&& ((BitVec.ofInt 64 (M1 a0 8 ((a4 * (M1 a0 1 (-1))) + a3))) ^^^ (18446744073709551615 : BitVec 64))) &&& (c10 ^^^ (18446744073709551615 : BitVec 64))))]) C vX0_62 kX6_bit ⟨Nat.le_of_ble_eq_true rfl, Nat.le_of_ble_eq_true rfl⟩ ⟨Nat.le_of_ble_eq_true rfl, Nat.le_of_ble_eq_true rfl⟩ rfl rfl (Nat.le_of_ble_eq_true rfl) (mX6_bit l D cy kd ln rh _ a3 M9  h) dX0_glides_37 (fun c13 M12 h => ?_)
  refine q_ldc2 (b := 18446744073709551615) C nX0_92 (by decide) dX0_glides_40 ?_
  refine q_lxor C dX0_glides_43 ?_
  refine q_land C dX0_glides_44 ?_
  exact hret (((c2 &&& ((BitVec.ofInt 64 (M1 a0 8 ((a4 * (M1 a0 1 (-1))) + a3))) ^^^ (18446744073709551615 : BitVec 64))) &&& (c10 ^^^ (18446744073709551615 : BitVec 64))) &&& (c13 ^^^ (18446744073709551615 : BitVec 64))) M12 _ _ dX0_glides_45 h
set_option maxHeartbeats 4000000 in
set_option maxRecDepth 100000 in
theorem mX0_pawnTargets (l : Launch) (D : va_G) (cy : Nat → ClassId) (kd : gKd) (ln : gLn) (rh : gRh) (post : BitVec 64 → gM → Prop) (a0 : Int) (a1 : Int) (a2 : Int) (a3 : Int) (M : gM) (hk0 : kd a0 = 0) (h : wX0_pawnTargets kd ln post a0 a1 a2 a3 M) : gML l D cy yX0_pawnTargets cX0_pawnTargets 7 1 21 [.ref (gad a0), .int (gI a1), .int (gI a2), .int (gI a3)] kd ln rh M post := by
  refine gML_of (own := RX0) (by decide) rfl (Nat.le_of_ble_eq_true rfl) ?_
  intro p e s m args below meth c A H0 Q C hret
  have t67 : ∀ (x4 : Int) (x5 : Int) (y0 : Int) (M : gM), wX0_pawnTargets_67 kd ln post a0 a1 a2 a3 x4 x5 y0 M → gW p l e (gRm 1 21) s m args below meth c D cy A H0 Q 7 kd ln rh 0 0 M 67 [(4, .int (gI x4)), (5, .int (gI x5))] [.int (gI y0)] := by
    intro  x4 x5 y0 M h
    unfold wX0_pawnTargets_67 at h
    refine q_istore (lv' := [(6, .int (gI y0)), (4, .int (gI x4)), (5, .int (gI x5))]) C (by decide) rfl dX0_pawnTargets_67 ?_
    refine q_iload C 0 rfl dX0_pawnTargets_69 ?_
    obtain ⟨r21, h⟩ := h
    refine q_if_eq (tgt := 88) C r21 (by decide) dX0_pawnTargets_71 (fun b22 => ?_) (fun b22 => ?_)
    · have h := h.1 b22
      refine q_iload C 1 rfl dX0_pawnTargets_88 ?_
      refine q_callNL (As := [.int (gI x4)]) (st := []) C vX0_62 kX6_bit ⟨Nat.le_of_ble_eq_true rfl, Nat.le_of_ble_eq_true rfl⟩ ⟨Nat.le_of_ble_eq_true rfl, Nat.le_of_ble_eq_true rfl⟩ rfl rfl (Nat.le_of_ble_eq_true rfl) (mX6_bit l D cy kd ln rh _ x4 M  h) dX0_pawnTargets_90 (fun c24 M23 h => ?_)
      exact hret c24 M23 _ _ dX0_pawnTargets_93 h
    · have h := h.2 b22
      refine q_iload C 1 rfl dX0_pawnTargets_74 ?_
      refine q_callNL (As := [.int (gI x4)]) (st := []) C vX0_62 kX6_bit ⟨Nat.le_of_ble_eq_true rfl, Nat.le_of_ble_eq_true rfl⟩ ⟨Nat.le_of_ble_eq_true rfl, Nat.le_of_ble_eq_true rfl⟩ rfl rfl (Nat.le_of_ble_eq_true rfl) (mX6_bit l D cy kd ln rh _ x4 M  h) dX0_pawnTargets_76 (fun c27 M26 h => ?_)
      refine q_iload C 2 rfl dX0_pawnTargets_79 ?_
      refine q_callNL (As := [.int (gI x5)]) (st := [.long (gL c27)]) C vX0_62 kX6_bit ⟨Nat.le_of_ble_eq_true rfl, Nat.le_of_ble_eq_true rfl⟩ ⟨Nat.le_of_ble_eq_true rfl, Nat.le_of_ble_eq_true rfl⟩ rfl rfl (Nat.le_of_ble_eq_true rfl) (mX6_bit l D cy kd ln rh _ x5 M26  h) dX0_pawnTargets_81 (fun c30 M29 h => ?_)
      refine q_lor C dX0_pawnTargets_84 ?_
      refine q_goto (tgt := 93) C (by decide) dX0_pawnTargets_85 ?_
      exact hret (c27 ||| c30) M29 _ _ dX0_pawnTargets_93 h
  have t66 : ∀ (x4 : Int) (x5 : Int) (M : gM), wX0_pawnTargets_66 kd ln post a0 a1 a2 a3 x4 x5 M → gW p l e (gRm 1 21) s m args below meth c D cy A H0 Q 7 kd ln rh 0 0 M 66 [(4, .int (gI x4)), (5, .int (gI x5))] [] := by
    intro  x4 x5 M h
    unfold wX0_pawnTargets_66 at h
    refine q_iconst C dX0_pawnTargets_66 ?_
    exact t67  x4 x5 0 M h
  unfold wX0_pawnTargets at h
  refine q_iload_n C 3 rfl rfl dX0_pawnTargets_0 ?_
  refine q_aload_n C 0 rfl rfl dX0_pawnTargets_1 ?_
  refine q_get (v := .int (gI (M a0 0 (-1)))) C fX0_17 hk0 rfl dX0_pawnTargets_2 (fun g1 => ?_)
  have h := h g1
  refine q_iadd C dX0_pawnTargets_5 ?_
  refine q_topi (fun v2 ev2 => ?_)
  have h := h v2 ev2
  refine q_istore (lv' := [(4, .int (gI v2)), (0, .ref (gad a0)), (1, .int (gI a1)), (2, .int (gI a2)), (3, .int (gI a3))]) C (by decide) rfl dX0_pawnTargets_6 ?_
  refine q_iload C 0 rfl dX0_pawnTargets_8 ?_
  refine q_iload_n C 2 rfl rfl dX0_pawnTargets_10 ?_
  obtain ⟨r3, h⟩ := h
  obtain ⟨r4, h⟩ := h
  refine q_icmp_eq (tgt := 20) C r3 r4 (by decide) dX0_pawnTargets_11 (fun b5 => ?_) (fun b5 => ?_)
  · have h := h.1 b5
    refine q_lconst (b := 0) C rfl dX0_pawnTargets_20 ?_
    exact hret (0 : BitVec 64) M _ _ dX0_pawnTargets_21 h
  · have h := h.2 b5
    refine q_iload C 0 rfl dX0_pawnTargets_14 ?_
    refine q_iload_n C 3 rfl rfl dX0_pawnTargets_16 ?_
    obtain ⟨r6, h⟩ := h
    refine q_icmp_ne (tgt := 22) C r3 r6 (by decide) dX0_pawnTargets_17 (fun b7 => ?_) (fun b7 => ?_)
    · have h := h.1 b7
      refine q_iload C 0 rfl dX0_pawnTargets_22 ?_
      refine q_aload_n C 1 rfl rfl dX0_pawnTargets_24 ?_
      refine q_get (v := .int (gI (M a0 0 (-1)))) C fX0_17 hk0 rfl dX0_pawnTargets_25 (fun g8 => ?_)
      refine q_iadd C dX0_pawnTargets_28 ?_
      refine q_topi (fun v9 ev9 => ?_)
      have h := h v9 ev9
      refine q_istore (lv' := [(5, .int (gI v9)), (4, .int (gI v2)), (0, .ref (gad a0)), (1, .int (gI a1)), (2, .int (gI a2)), (3, .int (gI a3))]) C (by decide) rfl dX0_pawnTargets_29 ?_
      refine q_iload_n C 5 rfl rfl dX0_pawnTargets_31 ?_
      refine q_iconst C dX0_pawnTargets_32 ?_
      refine q_aload_n C 2 rfl rfl dX0_pawnTargets_33 ?_
      refine q_get (v := .int (gI (M a0 0 (-1)))) C fX0_17 hk0 rfl dX0_pawnTargets_34 (fun g10 => ?_)
      refine q_imul C dX0_pawnTargets_37 ?_
      obtain ⟨r11, h⟩ := h
      obtain ⟨r12, h⟩ := h
      refine q_icmp_ge (tgt := 66) C r11 r12 (by decide) dX0_pawnTargets_38 (fun b13 => ?_) (fun b13 => ?_)
      · have h := h.1 b13
        refine q_lv (lv' := [(4, .int (gI v2)), (5, .int (gI v9))]) [1, 0] rfl ?_
        exact t66  v2 v9 M h
      · have h := h.2 b13
        refine q_aload_n C 2 rfl rfl dX0_pawnTargets_41 ?_
        refine q_iload C 0 rfl dX0_pawnTargets_42 ?_
        refine q_callVI (As := [.int (gI v9)]) (st := []) C vX0_82 kX0_isLastRank ⟨Nat.le_of_ble_eq_true rfl, Nat.le_of_ble_eq_true rfl⟩ ⟨Nat.le_of_ble_eq_true rfl, Nat.le_of_ble_eq_true rfl⟩ rfl hk0 ⟨_, _, rfl⟩ (by decide) rfl (Nat.le_of_ble_eq_true rfl) (mX0_isLastRank l D cy kd ln rh _ a0 v9 M hk0 h) dX0_pawnTargets_44 (fun c15 M14 g16 h => ?_)
        have h := h g16
        refine q_if_ne (tgt := 66) C g16 (by decide) dX0_pawnTargets_47 (fun b17 => ?_) (fun b17 => ?_)
        · have h := h.1 b17
          refine q_lv (lv' := [(4, .int (gI v2)), (5, .int (gI v9))]) [1, 0] rfl ?_
          exact t66  v2 v9 M14 h
        · have h := h.2 b17
          refine q_iload C 0 rfl dX0_pawnTargets_50 ?_
          refine q_iload_n C 3 rfl rfl dX0_pawnTargets_52 ?_
          obtain ⟨r18, h⟩ := h
          refine q_icmp_eq (tgt := 66) C r18 r4 (by decide) dX0_pawnTargets_53 (fun b19 => ?_) (fun b19 => ?_)
          · have h := h.1 b19
            refine q_lv (lv' := [(4, .int (gI v2)), (5, .int (gI v9))]) [1, 0] rfl ?_
            exact t66  v2 v9 M14 h
          · have h := h.2 b19
            refine q_iload C 0 rfl dX0_pawnTargets_56 ?_
            refine q_iload_n C 4 rfl rfl dX0_pawnTargets_58 ?_
            refine q_icmp_eq (tgt := 66) C r18 r6 (by decide) dX0_pawnTargets_59 (fun b20 => ?_) (fun b20 => ?_)
            · have h := h.1 b20
              refine q_lv (lv' := [(4, .int (gI v2)), (5, .int (gI v9))]) [1, 0] rfl ?_
              exact t66  v2 v9 M14 h
            · have h := h.2 b20
              refine q_iconst C dX0_pawnTargets_62 ?_
              refine q_goto (tgt := 67) C (by decide) dX0_pawnTargets_63 ?_
              refine q_lv (lv' := [(4, .int (gI v2)), (5, .int (gI v9))]) [1, 0] rfl ?_
              exact t67  v2 v9 1 M14 h
    · have h := h.2 b7
      refine q_lconst (b := 0) C rfl dX0_pawnTargets_20 ?_
      exact hret (0 : BitVec 64) M _ _ dX0_pawnTargets_21 h
set_option maxHeartbeats 4000000 in
set_option maxRecDepth 100000 in
theorem mX0_manTargets (l : Launch) (D : va_G) (cy : Nat → ClassId) (kd : gKd) (ln : gLn) (rh : gRh) (post : BitVec 64 → gM → Prop) (a0 : Int) (a1 : Int) (a2 : Int) (a3 : Int) (a4 : Int) (M : gM) (hk0 : kd a0 = 0) (h : wX0_manTargets kd ln post a0 a1 a2 a3 a4 M) : gML l D cy yX0_manTargets cX0_manTargets 5 2 47 [.ref (gad a0), .int (gI a1), .int (gI a2), .int (gI a3), .int (gI a4)] kd ln rh M post := by
  refine gML_of (own := RX0) (by decide) rfl (Nat.le_of_ble_eq_true rfl) ?_
  intro p e s m args below meth c A H0 Q C hret
  unfold wX0_manTargets at h
  refine q_iload_n C 1 rfl rfl dX0_manTargets_0 ?_
  refine q_iconst C dX0_manTargets_1 ?_
  obtain ⟨r1, h⟩ := h
  refine q_icmp_ne (tgt := 16) C r1 (show rng 2 by decide) (by decide) dX0_manTargets_2 (fun b2 => ?_) (fun b2 => ?_)
  · have h := h.1 b2
    refine q_aload_n C 0 rfl rfl dX0_manTargets_16 ?_
    refine q_iload_n C 1 rfl rfl dX0_manTargets_17 ?_
    refine q_iload_n C 2 rfl rfl dX0_manTargets_18 ?_
    refine q_iload_n C 3 rfl rfl dX0_manTargets_19 ?_
    refine q_iload C 4 rfl dX0_manTargets_20 ?_
    refine q_callVL (As := [.int (gI a1), .int (gI a2), .int (gI a3), .int (gI a4)]) (st := []) C vX0_97 kX0_glides ⟨Nat.le_of_ble_eq_true rfl, Nat.le_of_ble_eq_true rfl⟩ ⟨Nat.le_of_ble_eq_true rfl, Nat.le_of_ble_eq_true rfl⟩ rfl hk0 ⟨_, _, rfl⟩ (by decide) rfl (Nat.le_of_ble_eq_true rfl) (mX0_glides l D cy kd ln rh _ a0 a1 a2 a3 a4 M hk0 h) dX0_manTargets_22 (fun c4 M3 h => ?_)
    exact hret c4 M3 _ _ dX0_manTargets_25 h
  · have h := h.2 b2
    refine q_aload_n C 0 rfl rfl dX0_manTargets_5 ?_
    refine q_iload_n C 2 rfl rfl dX0_manTargets_6 ?_
    refine q_iload_n C 3 rfl rfl dX0_manTargets_7 ?_
    refine q_iload C 4 rfl dX0_manTargets_8 ?_
    refine q_callVL (As := [.int (gI a2), .int (gI a3), .int (gI a4)]) (st := []) C vX0_94 kX0_pawnTargets ⟨Nat.le_of_ble_eq_true rfl, Nat.le_of_ble_eq_true rfl⟩ ⟨Nat.le_of_ble_eq_true rfl, Nat.le_of_ble_eq_true rfl⟩ rfl hk0 ⟨_, _, rfl⟩ (by decide) rfl (Nat.le_of_ble_eq_true rfl) (mX0_pawnTargets l D cy kd ln rh _ a0 a2 a3 a4 M hk0 h) dX0_manTargets_10 (fun c7 M6 h => ?_)
    refine q_goto (tgt := 25) C (by decide) dX0_manTargets_13 ?_
    exact hret c7 M6 _ _ dX0_manTargets_25 h
