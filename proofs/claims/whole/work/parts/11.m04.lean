set_option maxHeartbeats 4000000 in
set_option maxRecDepth 100000 in
theorem mX6_count (l : Launch) (D : va_G) (cy : Nat → ClassId) (kd : gKd) (ln : gLn) (rh : gRh) (post : Int → gM → Prop) (px : gM → Prop) (a0 : Int) (a1 : Int) (a2 : Int) (a3 : Int) (M : gM) (hst : l.stackTraces = false) (hk0 : kd a0 = 6) (h : wX6_count kd ln post px a0 a1 a2 a3 M) : gTI l D cy yX6_count cX6_count 5 .int 8 140 [.ref (gad a0), .int (gI a1), .int (gI a2), .int (gI a3)] kd ln rh M post px := by
  refine gTI_of (own := RX6) (by decide) rfl (Nat.le_of_ble_eq_true rfl) hst rfl ?_
  intro p e s m args below meth c A H0 Q C hret hthr hexc
  unfold wX6_count at h
  refine q_aload_n C 0 rfl rfl dX6_count_0 ?_
  refine q_iload_n C 1 rfl rfl dX6_count_1 ?_
  refine q_iload_n C 2 rfl rfl dX6_count_2 ?_
  refine q_callTR (As := [.int (gI a1), .int (gI a2)]) (st := []) C vX6_145 kX6_demandTurn ⟨by decide, by decide⟩ ⟨by decide, by decide⟩ rfl hk0 ⟨_, _, rfl⟩ (by decide) rfl (Nat.le_of_ble_eq_true rfl) (mX6_demandTurn l D cy kd ln rh _ _ a0 a1 a2 M hst hk0 h) dX6_count_3 (fun M9 h => hexc M9 _ _ _ _ _ (by decide) (by decide) h) (fun c2 M1 h => ?_)
  refine q_astore (lv' := [(4, .ref (gad c2)), (0, .ref (gad a0)), (1, .int (gI a1)), (2, .int (gI a2)), (3, .int (gI a3))]) C (by decide) rfl dX6_count_6 ?_
  refine q_iload_n C 4 rfl rfl dX6_count_8 ?_
  obtain ⟨r4, h⟩ := h
  rcases (show (a3 < (-3) ∨ (-1) < a3) ∨ a3 = (-3) ∨ a3 = (-2) ∨ a3 = (-1) by omega) with b5 | b5 | b5 | b5
  · have h := h.1 b5
    refine q_tswOut (tgt := 58) C r4 b5 (by decide) dX6_count_9 ?_
    refine q_aload C 0 rfl dX6_count_58 ?_
    refine q_iload_n C 3 rfl rfl dX6_count_60 ?_
    refine q_iload_n C 4 rfl rfl dX6_count_61 ?_
    obtain ⟨r6, h⟩ := h
    refine q_callVI (As := [.int (gI a2), .int (gI a3)]) (st := []) C vX6_158 kX5_howManyAt ⟨by decide, by decide⟩ ⟨by decide, by decide⟩ rfl r6 ⟨_, _, rfl⟩ (by decide) rfl (Nat.le_of_ble_eq_true rfl) (mX5_howManyAt l D cy kd ln rh _ c2 a2 a3 M1 r6 h) dX6_count_62 (fun c8 M7 g9 h => ?_)
    have h := h g9
    exact hret c8 M7 _ _ 1 6 (by decide) (by decide) dX6_count_65 g9 h
  · have h := h.2.1 b5
    refine q_tswIn (tgt := 52) (off := 43) C r4 (by omega) (by omega) (by rw [b5]; rfl) (by decide) dX6_count_9 ?_
    refine q_aload C 0 rfl dX6_count_52 ?_
    obtain ⟨r10, h⟩ := h
    refine q_get (v := .int (gI (M1 c2 7 (-1)))) C fX6_155 r10 rfl dX6_count_54 (fun g11 => ?_)
    have h := h g11
    exact hret (M1 c2 7 (-1)) M1 _ _ 1 6 (by decide) (by decide) dX6_count_57 g11 h
  · have h := h.2.2.1 b5
    refine q_tswIn (tgt := 44) (off := 35) C r4 (by omega) (by omega) (by rw [b5]; rfl) (by decide) dX6_count_9 ?_
    refine q_aload C 0 rfl dX6_count_44 ?_
    obtain ⟨r12, h⟩ := h
    obtain ⟨r13, h⟩ := h
    refine q_get (v := .ref (rh c2 4)) C fX6_152 r12 (if_neg (Int.not_lt.mpr r13)) dX6_count_46 (fun g14 => ?_)
    refine q_iload_n C 3 rfl rfl dX6_count_49 ?_
    obtain ⟨r15, h⟩ := h
    refine q_iald C r12 rfl (fun _ q => q) r15 dX6_count_50 (fun g16 => ?_)
    have h := h g16
    exact hret (M1 c2 4 a2) M1 _ _ 1 6 (by decide) (by decide) dX6_count_51 g16 h
  · have h := h.2.2.2 b5
    refine q_tswIn (tgt := 36) (off := 27) C r4 (by omega) (by omega) (by rw [b5]; rfl) (by decide) dX6_count_9 ?_
    refine q_aload C 0 rfl dX6_count_36 ?_
    obtain ⟨r17, h⟩ := h
    obtain ⟨r18, h⟩ := h
    refine q_get (v := .ref (rh c2 3)) C fX6_149 r17 (if_neg (Int.not_lt.mpr r18)) dX6_count_38 (fun g19 => ?_)
    refine q_iload_n C 3 rfl rfl dX6_count_41 ?_
    obtain ⟨r20, h⟩ := h
    refine q_iald C r17 rfl (fun _ q => q) r20 dX6_count_42 (fun g21 => ?_)
    have h := h g21
    exact hret (M1 c2 3 a2) M1 _ _ 1 6 (by decide) (by decide) dX6_count_43 g21 h
set_option maxHeartbeats 4000000 in
set_option maxRecDepth 100000 in
theorem mX6_distance (l : Launch) (D : va_G) (cy : Nat → ClassId) (kd : gKd) (ln : gLn) (rh : gRh) (post : Int → gM → Prop) (px : gM → Prop) (a0 : Int) (a1 : Int) (a2 : Int) (a3 : Int) (a4 : Int) (a5 : Int) (M : gM) (hst : l.stackTraces = false) (hk0 : kd a0 = 6) (h : wX6_distance kd ln post px a0 a1 a2 a3 a4 a5 M) : gTI l D cy yX6_distance cX6_distance 6 .int 8 143 [.ref (gad a0), .int (gI a1), .int (gI a2), .int (gI a3), .int (gI a4), .int (gI a5)] kd ln rh M post px := by
  refine gTI_of (own := RX6) (by decide) rfl (Nat.le_of_ble_eq_true rfl) hst rfl ?_
  intro p e s m args below meth c A H0 Q C hret hthr hexc
  unfold wX6_distance at h
  refine q_aload_n C 0 rfl rfl dX6_distance_0 ?_
  refine q_iload_n C 1 rfl rfl dX6_distance_1 ?_
  refine q_iload_n C 2 rfl rfl dX6_distance_2 ?_
  refine q_iload_n C 3 rfl rfl dX6_distance_3 ?_
  refine q_iload C 4 rfl dX6_distance_4 ?_
  refine q_iload C 5 rfl dX6_distance_6 ?_
  refine q_callTR (As := [.int (gI a1), .int (gI a2), .int (gI a3), .int (gI a4), .int (gI a5)]) (st := []) C vX6_98 kX6_demandTable ⟨by decide, by decide⟩ ⟨by decide, by decide⟩ rfl hk0 ⟨_, _, rfl⟩ (by decide) rfl (Nat.le_of_ble_eq_true rfl) (mX6_demandTable l D cy kd ln rh _ _ a0 a1 a2 a3 a4 a5 M hst hk0 h) dX6_distance_8 (fun M9 h => hexc M9 _ _ _ _ _ (by decide) (by decide) h) (fun c2 M1 h => ?_)
  refine q_iload_n C 2 rfl rfl dX6_distance_11 ?_
  refine q_iload_n C 3 rfl rfl dX6_distance_12 ?_
  refine q_iload C 4 rfl dX6_distance_13 ?_
  refine q_iload C 5 rfl dX6_distance_15 ?_
  obtain ⟨r4, h⟩ := h
  refine q_callVI (As := [.int (gI a2), .int (gI a3), .int (gI a4), .int (gI a5)]) (st := []) C vX6_102 kX5_look ⟨by decide, by decide⟩ ⟨by decide, by decide⟩ rfl r4 ⟨_, _, rfl⟩ (by decide) rfl (Nat.le_of_ble_eq_true rfl) (mX5_look l D cy kd ln rh _ c2 a2 a3 a4 a5 M1 r4 h) dX6_distance_17 (fun c6 M5 g7 h => ?_)
  have h := h g7
  exact hret c6 M5 _ _ 1 6 (by decide) (by decide) dX6_distance_20 g7 h
set_option maxHeartbeats 4000000 in
set_option maxRecDepth 100000 in
theorem mX6_feed (l : Launch) (D : va_G) (cy : Nat → ClassId) (kd : gKd) (ln : gLn) (rh : gRh) (post : Int → gM → Prop) (a0 : Int) (a1 : Int) (a2 : Int) (a3 : Int) (a4 : Int) (a5 : Int) (M : gM) (hk0 : kd a0 = 6) (h : wX6_feed kd ln post a0 a1 a2 a3 a4 a5 M) : gMI l D cy yX6_feed cX6_feed 6 .int 1 22 [.ref (gad a0), .int (gI a1), .int (gI a2), .int (gI a3), .int (gI a4), .int (gI a5)] kd ln rh M post := by
  refine gMI_of (own := RX6) (by decide) rfl (Nat.le_of_ble_eq_true rfl) ?_
  intro p e s m args below meth c A H0 Q C hret
  unfold wX6_feed at h
  refine q_aload_n C 0 rfl rfl dX6_feed_0 ?_
  refine q_get (v := .int (gI (M a0 10 (-1)))) C fX6_167 hk0 rfl dX6_feed_1 (fun g1 => ?_)
  have h := h g1
  refine q_bipush C (by decide) dX6_feed_4 ?_
  refine q_iadd C dX6_feed_6 ?_
  refine q_bipush C (by decide) dX6_feed_7 ?_
  obtain ⟨r2, h⟩ := h
  refine q_icmp_le (tgt := 14) C r2 (show rng 40 by decide) (by decide) dX6_feed_9 (fun b3 => ?_) (fun b3 => ?_)
  · have h := h.1 b3
    refine q_aload_n C 0 rfl rfl dX6_feed_14 ?_
    refine q_iload_n C 1 rfl rfl dX6_feed_15 ?_
    refine q_callVV (As := [.int (gI a1)]) (st := []) C vX6_170 kX6_addToTape ⟨by decide, by decide⟩ ⟨by decide, by decide⟩ rfl hk0 ⟨_, _, rfl⟩ (by decide) rfl (Nat.le_of_ble_eq_true rfl) (mX6_addToTape l D cy kd ln rh _ a0 a1 M hk0 h) dX6_feed_16 (fun M4 h => ?_)
    refine q_aload_n C 0 rfl rfl dX6_feed_19 ?_
    refine q_iload_n C 2 rfl rfl dX6_feed_20 ?_
    refine q_callVV (As := [.int (gI a2)]) (st := []) C vX6_170 kX6_addToTape ⟨by decide, by decide⟩ ⟨by decide, by decide⟩ rfl hk0 ⟨_, _, rfl⟩ (by decide) rfl (Nat.le_of_ble_eq_true rfl) (mX6_addToTape l D cy kd ln rh _ a0 a2 M4 hk0 h) dX6_feed_21 (fun M7 h => ?_)
    refine q_aload_n C 0 rfl rfl dX6_feed_24 ?_
    refine q_iload_n C 3 rfl rfl dX6_feed_25 ?_
    refine q_callVV (As := [.int (gI a3)]) (st := []) C vX6_170 kX6_addToTape ⟨by decide, by decide⟩ ⟨by decide, by decide⟩ rfl hk0 ⟨_, _, rfl⟩ (by decide) rfl (Nat.le_of_ble_eq_true rfl) (mX6_addToTape l D cy kd ln rh _ a0 a3 M7 hk0 h) dX6_feed_26 (fun M10 h => ?_)
    refine q_aload_n C 0 rfl rfl dX6_feed_29 ?_
    refine q_iload C 4 rfl dX6_feed_30 ?_
    refine q_callVV (As := [.int (gI a4)]) (st := []) C vX6_170 kX6_addToTape ⟨by decide, by decide⟩ ⟨by decide, by decide⟩ rfl hk0 ⟨_, _, rfl⟩ (by decide) rfl (Nat.le_of_ble_eq_true rfl) (mX6_addToTape l D cy kd ln rh _ a0 a4 M10 hk0 h) dX6_feed_32 (fun M13 h => ?_)
    refine q_aload_n C 0 rfl rfl dX6_feed_35 ?_
    refine q_iload C 5 rfl dX6_feed_36 ?_
    refine q_callVV (As := [.int (gI a5)]) (st := []) C vX6_170 kX6_addToTape ⟨by decide, by decide⟩ ⟨by decide, by decide⟩ rfl hk0 ⟨_, _, rfl⟩ (by decide) rfl (Nat.le_of_ble_eq_true rfl) (mX6_addToTape l D cy kd ln rh _ a0 a5 M13 hk0 h) dX6_feed_38 (fun M16 h => ?_)
    refine q_aload_n C 0 rfl rfl dX6_feed_41 ?_
    refine q_get (v := .int (gI (M16 a0 10 (-1)))) C fX6_167 hk0 rfl dX6_feed_42 (fun g19 => ?_)
    have h := h g19
    exact hret (M16 a0 10 (-1)) M16 _ _ dX6_feed_45 g19 h
  · have h := h.2 b3
    refine q_iconst C dX6_feed_12 ?_
    exact hret (-1) M _ _ dX6_feed_13 (show rng (-1) by decide) h
set_option maxHeartbeats 4000000 in
set_option maxRecDepth 100000 in
theorem mX6_isLegal (l : Launch) (D : va_G) (cy : Nat → ClassId) (kd : gKd) (ln : gLn) (rh : gRh) (post : Int → gM → Prop) (a0 : Int) (a1 : Int) (a2 : Int) (a3 : Int) (a4 : Int) (a5 : Int) (M : gM) (hk0 : kd a0 = 6) (h : wX6_isLegal kd ln post a0 a1 a2 a3 a4 a5 M) : gMI l D cy yX6_isLegal cX6_isLegal 6 .boolean 3 72 [.ref (gad a0), .int (gI a1), .int (gI a2), .int (gI a3), .int (gI a4), .int (gI a5)] kd ln rh M post := by
  refine gMI_ofZ (own := RX6) (by decide) rfl (Nat.le_of_ble_eq_true rfl) ?_
  intro p e s m args below meth c A H0 Q C hret
  unfold wX6_isLegal at h
  refine q_aload_n C 0 rfl rfl dX6_isLegal_0 ?_
  refine q_get (v := gR (M a0 1 (-1))) C fX6_52 hk0 rfl dX6_isLegal_1 (fun g1 => ?_)
  obtain ⟨r2, h⟩ := h
  refine q_nn r2 (by decide) ?_
  refine q_iload_n C 1 rfl rfl dX6_isLegal_4 ?_
  refine q_iload_n C 2 rfl rfl dX6_isLegal_5 ?_
  refine q_iload_n C 3 rfl rfl dX6_isLegal_6 ?_
  refine q_iload C 4 rfl dX6_isLegal_7 ?_
  refine q_iload C 5 rfl dX6_isLegal_9 ?_
  refine q_callVI (As := [.int (gI a1), .int (gI a2), .int (gI a3), .int (gI a4), .int (gI a5)]) (st := []) C vX6_70 kX0_allows ⟨by decide, by decide⟩ ⟨by decide, by decide⟩ rfl r2 ⟨_, _, rfl⟩ (by decide) rfl (Nat.le_of_ble_eq_true rfl) (mX0_allows l D cy kd ln rh _ (M a0 1 (-1)) a1 a2 a3 a4 a5 M r2 h) dX6_isLegal_11 (fun c4 M3 g5 h => ?_)
  have h := h g5
  obtain ⟨r6, h⟩ := h
  exact hret c4 M3 _ _ dX6_isLegal_14 r6 h
set_option maxHeartbeats 4000000 in
set_option maxRecDepth 100000 in
theorem mX6_letterAt (l : Launch) (D : va_G) (cy : Nat → ClassId) (kd : gKd) (ln : gLn) (rh : gRh) (post : Int → gM → Prop) (a0 : Nat) (a1 : Int) (M : gM) (hk0 : a0 < 2) (h : wX6_letterAt kd ln post a0 a1 M) : gMI l D cy yX6_letterAt cX6_letterAt 3 .int 0 0 [.ref (cy (20 + a0)), .int (gI a1)] kd ln rh M post := by
  refine gMI_of (own := RX6) (by decide) rfl (Nat.le_of_ble_eq_true rfl) ?_
  intro p e s m args below meth c A H0 Q C hret
  have t2 : ∀ (n : Nat) (x2 : Int) (M : gM), wX6_letterAt_2 kd ln post a0 a1 n x2 M → gW p l e (gRm 0 0) s m args below meth c D cy A H0 Q 3 kd ln rh 0 0 M 2 [(0, .ref (cy (20 + a0))), (1, .int (gI a1)), (2, .int (gI x2))] [] := by
    intro n
    induction n with
    | zero => intro x2 M h; exact absurd h (by simp [wX6_letterAt_2])
    | succ n ih =>
      intro x2 M h
      have hk2_ := ih
      rw [wX6_letterAt_2] at h
      refine q_iload_n C 2 rfl rfl dX6_letterAt_2 ?_
      refine q_aload_n C 0 rfl rfl dX6_letterAt_3 ?_
      refine q_clen C hk0 dX6_letterAt_4 ?_
      obtain ⟨r1, h⟩ := h
      obtain ⟨r2, h⟩ := h
      refine q_icmp_ge (tgt := 23) C r1 r2 (by decide) dX6_letterAt_5 (fun b3 => ?_) (fun b3 => ?_)
      · have h := h.1 b3
        refine q_iconst C dX6_letterAt_23 ?_
        exact hret (-1) M _ _ dX6_letterAt_24 (show rng (-1) by decide) h
      · have h := h.2 b3
        refine q_aload_n C 0 rfl rfl dX6_letterAt_8 ?_
        refine q_iload_n C 2 rfl rfl dX6_letterAt_9 ?_
        obtain ⟨r4, h⟩ := h
        refine q_cald C hk0 r4 dX6_letterAt_10 (fun g5 => ?_)
        have h := h g5
        refine q_iload_n C 1 rfl rfl dX6_letterAt_11 ?_
        obtain ⟨r6, h⟩ := h
        refine q_icmp_ne (tgt := 17) C g5 r6 (by decide) dX6_letterAt_12 (fun b7 => ?_) (fun b7 => ?_)
        · have h := h.1 b7
          refine q_iinc (lv' := [(2, .int (gI (x2 + 1))), (0, .ref (cy (20 + a0))), (1, .int (gI a1))]) C 2 rfl (by decide) rfl dX6_letterAt_17 ?_
          refine q_goto (tgt := 2) C (by decide) dX6_letterAt_20 ?_
          refine q_lv (lv' := [(0, .ref (cy (20 + a0))), (1, .int (gI a1)), (2, .int (gI (x2 + 1)))]) [1, 2, 0] rfl ?_
          exact hk2_ (x2 + 1) M h
        · have h := h.2 b7
          refine q_iload_n C 2 rfl rfl dX6_letterAt_15 ?_
          exact hret x2 M _ _ dX6_letterAt_16 r1 h
  unfold wX6_letterAt at h
  refine q_iconst C dX6_letterAt_0 ?_
  refine q_istore_n (lv' := [(2, .int (gI 0)), (0, .ref (cy (20 + a0))), (1, .int (gI a1))]) C rfl (by decide) rfl dX6_letterAt_1 ?_
  refine q_lv (lv' := [(0, .ref (cy (20 + a0))), (1, .int (gI a1)), (2, .int (gI 0))]) [1, 2, 0] rfl ?_
  obtain ⟨j2, h⟩ := h
  exact t2  j2 0 M h
set_option maxHeartbeats 4000000 in
set_option maxRecDepth 100000 in
theorem mX6_squareOfText (l : Launch) (D : va_G) (cy : Nat → ClassId) (kd : gKd) (ln : gLn) (rh : gRh) (post : Int → gM → Prop) (a0 : Int) (a1 : Int) (M : gM) (hk0 : kd a0 = 6) (h : wX6_squareOfText kd ln post a0 a1 M) : gMI l D cy yX6_squareOfText cX6_squareOfText 5 .int 0 0 [.ref (gad a0), .int (gI a1)] kd ln rh M post := by
  refine gMI_of (own := RX6) (by decide) rfl (Nat.le_of_ble_eq_true rfl) ?_
  intro p e s m args below meth c A H0 Q C hret
  have t57 : ∀ (x2 : Int) (x3 : Int) (y0 : Int) (M : gM), wX6_squareOfText_57 kd ln post a0 a1 x2 x3 y0 M → gW p l e (gRm 0 0) s m args below meth c D cy A H0 Q 5 kd ln rh 0 0 M 57 [(0, .ref (gad a0)), (2, .int (gI x2)), (3, .int (gI x3))] [.int (gI y0)] := by
    intro  x2 x3 y0 M h
    unfold wX6_squareOfText_57 at h
    refine q_istore (lv' := [(4, .int (gI y0)), (0, .ref (gad a0)), (2, .int (gI x2)), (3, .int (gI x3))]) C (by decide) rfl dX6_squareOfText_57 ?_
    refine q_iload C 0 rfl dX6_squareOfText_59 ?_
    obtain ⟨r21, h⟩ := h
    refine q_if_eq (tgt := 78) C r21 (by decide) dX6_squareOfText_61 (fun b22 => ?_) (fun b22 => ?_)
    · have h := h.1 b22
      refine q_iconst C dX6_squareOfText_78 ?_
      exact hret (-1) M _ _ dX6_squareOfText_79 (show rng (-1) by decide) h
    · have h := h.2 b22
      refine q_aload_n C 1 rfl rfl dX6_squareOfText_64 ?_
      refine q_get (v := gR (M a0 1 (-1))) C fX6_52 hk0 rfl dX6_squareOfText_65 (fun g23 => ?_)
      obtain ⟨r24, h⟩ := h
      refine q_nn r24 (by decide) ?_
      refine q_get (v := .int (gI (M (M a0 1 (-1)) 0 (-1)))) C fX6_87 r24 rfl dX6_squareOfText_68 (fun g25 => ?_)
      have h := h g25
      refine q_iload_n C 3 rfl rfl dX6_squareOfText_71 ?_
      refine q_imul C dX6_squareOfText_72 ?_
      refine q_iload_n C 2 rfl rfl dX6_squareOfText_73 ?_
      refine q_iadd C dX6_squareOfText_74 ?_
      refine q_goto (tgt := 79) C (by decide) dX6_squareOfText_75 ?_
      obtain ⟨r26, h⟩ := h
      exact hret (((M (M a0 1 (-1)) 0 (-1)) * x3) + x2) M _ _ dX6_squareOfText_79 r26 h
  have t56 : ∀ (x2 : Int) (x3 : Int) (M : gM), wX6_squareOfText_56 kd ln post a0 a1 x2 x3 M → gW p l e (gRm 0 0) s m args below meth c D cy A H0 Q 5 kd ln rh 0 0 M 56 [(0, .ref (gad a0)), (2, .int (gI x2)), (3, .int (gI x3))] [] := by
    intro  x2 x3 M h
    unfold wX6_squareOfText_56 at h
    refine q_iconst C dX6_squareOfText_56 ?_
    exact t57  x2 x3 0 M h
  unfold wX6_squareOfText at h
  refine q_aload_n C 0 rfl rfl dX6_squareOfText_0 ?_
  obtain ⟨r1, h⟩ := h
  refine q_get (v := .ref (rh a0 9)) C fX6_43 hk0 (if_neg (Int.not_lt.mpr r1)) dX6_squareOfText_1 (fun g2 => ?_)
  refine q_iload_n C 1 rfl rfl dX6_squareOfText_4 ?_
  obtain ⟨r3, h⟩ := h
  refine q_iald C hk0 rfl (fun _ q => q) r3 dX6_squareOfText_5 (fun g4 => ?_)
  have h := h g4
  refine q_bipush C (by decide) dX6_squareOfText_6 ?_
  refine q_isub C dX6_squareOfText_8 ?_
  refine q_topi (fun v5 ev5 => ?_)
  have h := h v5 ev5
  refine q_istore_n (lv' := [(2, .int (gI v5)), (0, .ref (gad a0)), (1, .int (gI a1))]) C rfl (by decide) rfl dX6_squareOfText_9 ?_
  refine q_aload_n C 1 rfl rfl dX6_squareOfText_10 ?_
  refine q_get (v := .ref (rh a0 9)) C fX6_43 hk0 (if_neg (Int.not_lt.mpr r1)) dX6_squareOfText_11 (fun g6 => ?_)
  refine q_iload_n C 2 rfl rfl dX6_squareOfText_14 ?_
  refine q_iconst C dX6_squareOfText_15 ?_
  refine q_iadd C dX6_squareOfText_16 ?_
  obtain ⟨r7, h⟩ := h
  refine q_iald C hk0 rfl (fun _ q => q) r7 dX6_squareOfText_17 (fun g8 => ?_)
  have h := h g8
  refine q_bipush C (by decide) dX6_squareOfText_18 ?_
  refine q_isub C dX6_squareOfText_20 ?_
  refine q_topi (fun v9 ev9 => ?_)
  have h := h v9 ev9
  refine q_istore_n (lv' := [(3, .int (gI v9)), (2, .int (gI v5)), (0, .ref (gad a0)), (1, .int (gI a1))]) C rfl (by decide) rfl dX6_squareOfText_21 ?_
  refine q_iload_n C 1 rfl rfl dX6_squareOfText_22 ?_
  obtain ⟨r10, h⟩ := h
  refine q_if_lt (tgt := 56) C r10 (by decide) dX6_squareOfText_23 (fun b11 => ?_) (fun b11 => ?_)
  · have h := h.1 b11
    refine q_lv (lv' := [(0, .ref (gad a0)), (2, .int (gI v5)), (3, .int (gI v9))]) [2, 1, 0] rfl ?_
    exact t56  v5 v9 M h
  · have h := h.2 b11
    refine q_iload_n C 1 rfl rfl dX6_squareOfText_26 ?_
    refine q_aload_n C 2 rfl rfl dX6_squareOfText_27 ?_
    refine q_get (v := gR (M a0 1 (-1))) C fX6_52 hk0 rfl dX6_squareOfText_28 (fun g12 => ?_)
    obtain ⟨r13, h⟩ := h
    refine q_nn r13 (by decide) ?_
    refine q_get (v := .int (gI (M (M a0 1 (-1)) 0 (-1)))) C fX6_87 r13 rfl dX6_squareOfText_31 (fun g14 => ?_)
    have h := h g14
    refine q_icmp_ge (tgt := 56) C r10 g14 (by decide) dX6_squareOfText_34 (fun b15 => ?_) (fun b15 => ?_)
    · have h := h.1 b15
      refine q_lv (lv' := [(0, .ref (gad a0)), (2, .int (gI v5)), (3, .int (gI v9))]) [2, 1, 0] rfl ?_
      exact t56  v5 v9 M h
    · have h := h.2 b15
      refine q_iload_n C 0 rfl rfl dX6_squareOfText_37 ?_
      obtain ⟨r16, h⟩ := h
      refine q_if_lt (tgt := 56) C r16 (by decide) dX6_squareOfText_38 (fun b17 => ?_) (fun b17 => ?_)
      · have h := h.1 b17
        refine q_lv (lv' := [(0, .ref (gad a0)), (2, .int (gI v5)), (3, .int (gI v9))]) [2, 1, 0] rfl ?_
        exact t56  v5 v9 M h
      · have h := h.2 b17
        refine q_iload_n C 0 rfl rfl dX6_squareOfText_41 ?_
        refine q_aload_n C 2 rfl rfl dX6_squareOfText_42 ?_
        refine q_get (v := gR (M a0 1 (-1))) C fX6_52 hk0 rfl dX6_squareOfText_43 (fun g18 => ?_)
        refine q_nn r13 (by decide) ?_
        refine q_get (v := .int (gI (M (M a0 1 (-1)) 0 (-1)))) C fX6_87 r13 rfl dX6_squareOfText_46 (fun g19 => ?_)
        refine q_icmp_ge (tgt := 56) C r16 g14 (by decide) dX6_squareOfText_49 (fun b20 => ?_) (fun b20 => ?_)
        · have h := h.1 b20
          refine q_lv (lv' := [(0, .ref (gad a0)), (2, .int (gI v5)), (3, .int (gI v9))]) [2, 1, 0] rfl ?_
          exact t56  v5 v9 M h
        · have h := h.2 b20
          refine q_iconst C dX6_squareOfText_52 ?_
          refine q_goto (tgt := 57) C (by decide) dX6_squareOfText_53 ?_
          refine q_lv (lv' := [(0, .ref (gad a0)), (2, .int (gI v5)), (3, .int (gI v9))]) [2, 1, 0] rfl ?_
          exact t57  v5 v9 1 M h
set_option maxHeartbeats 4000000 in
set_option maxRecDepth 100000 in
theorem mX6_keyOfText (l : Launch) (D : va_G) (cy : Nat → ClassId) (kd : gKd) (ln : gLn) (rh : gRh) (post : Int → gM → Prop) (a0 : Int) (M : gM) (hk0 : kd a0 = 6) (h : wX6_keyOfText kd ln post a0 M) : gMI l D cy yX6_keyOfText cX6_keyOfText 8 .int 3 72 [.ref (gad a0)] kd ln rh M post := by
  refine gMI_of (own := RX6) (by decide) rfl (Nat.le_of_ble_eq_true rfl) ?_
  intro p e s m args below meth c A H0 Q C hret
  have t111 : ∀ (x1 : Int) (x2 : Int) (x3 : Int) (x4 : Int) (x5 : Int) (y0 : Int) (M : gM), wX6_keyOfText_111 kd ln post a0 x1 x2 x3 x4 x5 y0 M → gW p l e (gRm 3 72) s m args below meth c D cy A H0 Q 8 kd ln rh 0 0 M 111 [(0, .ref (gad a0)), (1, .int (gI x1)), (2, .int (gI x2)), (3, .int (gI x3)), (4, .int (gI x4)), (5, .int (gI x5))] [.int (gI y0)] := by
    intro  x1 x2 x3 x4 x5 y0 M h
    unfold wX6_keyOfText_111 at h
    refine q_istore (lv' := [(6, .int (gI y0)), (0, .ref (gad a0)), (1, .int (gI x1)), (2, .int (gI x2)), (3, .int (gI x3)), (4, .int (gI x4)), (5, .int (gI x5))]) C (by decide) rfl dX6_keyOfText_111 ?_
    refine q_iload C 0 rfl dX6_keyOfText_113 ?_
    obtain ⟨r43, h⟩ := h
    refine q_if_eq (tgt := 135) C r43 (by decide) dX6_keyOfText_115 (fun b44 => ?_) (fun b44 => ?_)
    · have h := h.1 b44
      refine q_iconst C dX6_keyOfText_135 ?_
      exact hret (-1) M _ _ dX6_keyOfText_136 (show rng (-1) by decide) h
    · have h := h.2 b44
      refine q_aload_n C 1 rfl rfl dX6_keyOfText_118 ?_
      refine q_get (v := gR (M a0 1 (-1))) C fX6_52 hk0 rfl dX6_keyOfText_119 (fun g45 => ?_)
      obtain ⟨r46, h⟩ := h
      refine q_nn r46 (by decide) ?_
      refine q_iload_n C 2 rfl rfl dX6_keyOfText_122 ?_
      refine q_iload_n C 4 rfl rfl dX6_keyOfText_123 ?_
      refine q_iload C 6 rfl dX6_keyOfText_124 ?_
      refine q_iload C 5 rfl dX6_keyOfText_126 ?_
      refine q_iload_n C 3 rfl rfl dX6_keyOfText_128 ?_
      refine q_callVI (As := [.int (gI x1), .int (gI x3), .int (gI x5), .int (gI x4), .int (gI x2)]) (st := []) C vX6_70 kX0_allows ⟨by decide, by decide⟩ ⟨by decide, by decide⟩ rfl r46 ⟨_, _, rfl⟩ (by decide) rfl (Nat.le_of_ble_eq_true rfl) (mX0_allows l D cy kd ln rh _ (M a0 1 (-1)) x1 x3 x5 x4 x2 M r46 h) dX6_keyOfText_129 (fun c48 M47 g49 h => ?_)
      have h := h g49
      refine q_if_ne (tgt := 137) C g49 (by decide) dX6_keyOfText_132 (fun b50 => ?_) (fun b50 => ?_)
      · have h := h.1 b50
        refine q_aload_n C 1 rfl rfl dX6_keyOfText_137 ?_
        refine q_get (v := gR (M47 a0 1 (-1))) C fX6_52 hk0 rfl dX6_keyOfText_138 (fun g51 => ?_)
        obtain ⟨r52, h⟩ := h
        refine q_nn r52 (by decide) ?_
        refine q_get (v := .int (gI (M47 (M47 a0 1 (-1)) 1 (-1)))) C fX6_251 r52 rfl dX6_keyOfText_141 (fun g53 => ?_)
        have h := h g53
        refine q_topi (fun v54 ev54 => ?_)
        have h := h v54 ev54
        have gv54 : rng v54 := by rw [ev54]; exact g53
        refine q_istore (lv' := [(7, .int (gI v54)), (6, .int (gI y0)), (0, .ref (gad a0)), (1, .int (gI x1)), (2, .int (gI x2)), (3, .int (gI x3)), (4, .int (gI x4)), (5, .int (gI x5))]) C (by decide) rfl dX6_keyOfText_144 ?_
        refine q_iconst C dX6_keyOfText_146 ?_
        refine q_iload_n C 3 rfl rfl dX6_keyOfText_147 ?_
        refine q_iload C 0 rfl dX6_keyOfText_148 ?_
        refine q_imul C dX6_keyOfText_150 ?_
        refine q_iload_n C 5 rfl rfl dX6_keyOfText_151 ?_
        refine q_iadd C dX6_keyOfText_152 ?_
        refine q_iload C 0 rfl dX6_keyOfText_153 ?_
        refine q_imul C dX6_keyOfText_155 ?_
        refine q_iload C 7 rfl dX6_keyOfText_156 ?_
        refine q_iadd C dX6_keyOfText_158 ?_
        refine q_iload C 0 rfl dX6_keyOfText_159 ?_
        refine q_imul C dX6_keyOfText_161 ?_
        refine q_iload C 6 rfl dX6_keyOfText_162 ?_
        refine q_iadd C dX6_keyOfText_164 ?_
        refine q_imul C dX6_keyOfText_165 ?_
        refine q_iload_n C 4 rfl rfl dX6_keyOfText_166 ?_
        refine q_iadd C dX6_keyOfText_167 ?_
        obtain ⟨r55, h⟩ := h
        exact hret ((2 * ((((((x1 * v54) + x3) * v54) + x5) * v54) + x4)) + x2) M47 _ _ dX6_keyOfText_168 r55 h
      · have h := h.2 b50
        refine q_iconst C dX6_keyOfText_135 ?_
        exact hret (-1) M47 _ _ dX6_keyOfText_136 (show rng (-1) by decide) h
  have t110 : ∀ (x1 : Int) (x2 : Int) (x3 : Int) (x4 : Int) (x5 : Int) (M : gM), wX6_keyOfText_110 kd ln post a0 x1 x2 x3 x4 x5 M → gW p l e (gRm 3 72) s m args below meth c D cy A H0 Q 8 kd ln rh 0 0 M 110 [(0, .ref (gad a0)), (1, .int (gI x1)), (2, .int (gI x2)), (3, .int (gI x3)), (4, .int (gI x4)), (5, .int (gI x5))] [] := by
    intro  x1 x2 x3 x4 x5 M h
    unfold wX6_keyOfText_110 at h
    refine q_iconst C dX6_keyOfText_110 ?_
    exact t111  x1 x2 x3 x4 x5 0 M h
  unfold wX6_keyOfText at h
  refine q_gets (t := 0) C (Or.inl ⟨rfl, rfl⟩) zX6_180 dX6_keyOfText_0 ?_
  refine q_aload_n C 0 rfl rfl dX6_keyOfText_3 ?_
  obtain ⟨r1, h⟩ := h
  refine q_get (v := .ref (rh a0 9)) C fX6_43 hk0 (if_neg (Int.not_lt.mpr r1)) dX6_keyOfText_4 (fun g2 => ?_)
  refine q_iconst C dX6_keyOfText_7 ?_
  obtain ⟨r3, h⟩ := h
  refine q_iald C hk0 rfl (fun _ q => q) r3 dX6_keyOfText_8 (fun g4 => ?_)
  have h := h g4
  refine q_callSI (As := [.ref (cy (20 + 0)), .int (gI (M a0 9 4))]) (st := []) C vX6_244 kX6_letterAt ⟨by decide, by decide⟩ ⟨by decide, by decide⟩ rfl rfl (Nat.le_of_ble_eq_true rfl) (mX6_letterAt l D cy kd ln rh _ 0 (M a0 9 4) M (by decide) h) dX6_keyOfText_9 (fun c6 M5 g7 h => ?_)
  have h := h g7
  refine q_istore_n (lv' := [(1, .int (gI c6)), (0, .ref (gad a0))]) C rfl (by decide) rfl dX6_keyOfText_12 ?_
  refine q_gets (t := 1) C (Or.inr ⟨rfl, rfl⟩) zX6_184 dX6_keyOfText_13 ?_
  refine q_aload_n C 1 rfl rfl dX6_keyOfText_16 ?_
  refine q_get (v := .ref (rh a0 9)) C fX6_43 hk0 (if_neg (Int.not_lt.mpr r1)) dX6_keyOfText_17 (fun g8 => ?_)
  refine q_bipush C (by decide) dX6_keyOfText_20 ?_
  obtain ⟨r9, h⟩ := h
  refine q_iald C hk0 rfl (fun _ q => q) r9 dX6_keyOfText_22 (fun g10 => ?_)
  have h := h g10
  refine q_callSI (As := [.ref (cy (20 + 1)), .int (gI (M5 a0 9 12))]) (st := []) C vX6_244 kX6_letterAt ⟨by decide, by decide⟩ ⟨by decide, by decide⟩ rfl rfl (Nat.le_of_ble_eq_true rfl) (mX6_letterAt l D cy kd ln rh _ 1 (M5 a0 9 12) M5 (by decide) h) dX6_keyOfText_23 (fun c12 M11 g13 h => ?_)
  have h := h g13
  refine q_istore_n (lv' := [(2, .int (gI c12)), (1, .int (gI c6)), (0, .ref (gad a0))]) C rfl (by decide) rfl dX6_keyOfText_26 ?_
  refine q_aload_n C 2 rfl rfl dX6_keyOfText_27 ?_
  refine q_iconst C dX6_keyOfText_28 ?_
  refine q_callVI (As := [.int (gI 1)]) (st := []) C vX6_248 kX6_squareOfText ⟨by decide, by decide⟩ ⟨by decide, by decide⟩ rfl hk0 ⟨_, _, rfl⟩ (by decide) rfl (Nat.le_of_ble_eq_true rfl) (mX6_squareOfText l D cy kd ln rh _ a0 1 M11 hk0 h) dX6_keyOfText_29 (fun c15 M14 g16 h => ?_)
  have h := h g16
  refine q_istore_n (lv' := [(3, .int (gI c15)), (2, .int (gI c12)), (1, .int (gI c6)), (0, .ref (gad a0))]) C rfl (by decide) rfl dX6_keyOfText_32 ?_
  refine q_aload_n C 3 rfl rfl dX6_keyOfText_33 ?_
  refine q_iconst C dX6_keyOfText_34 ?_
  refine q_callVI (As := [.int (gI 5)]) (st := []) C vX6_248 kX6_squareOfText ⟨by decide, by decide⟩ ⟨by decide, by decide⟩ rfl hk0 ⟨_, _, rfl⟩ (by decide) rfl (Nat.le_of_ble_eq_true rfl) (mX6_squareOfText l D cy kd ln rh _ a0 5 M14 hk0 h) dX6_keyOfText_35 (fun c18 M17 g19 h => ?_)
  have h := h g19
  refine q_istore (lv' := [(4, .int (gI c18)), (3, .int (gI c15)), (2, .int (gI c12)), (1, .int (gI c6)), (0, .ref (gad a0))]) C (by decide) rfl dX6_keyOfText_38 ?_
  refine q_aload_n C 4 rfl rfl dX6_keyOfText_40 ?_
  refine q_bipush C (by decide) dX6_keyOfText_41 ?_
  refine q_callVI (As := [.int (gI 9)]) (st := []) C vX6_248 kX6_squareOfText ⟨by decide, by decide⟩ ⟨by decide, by decide⟩ rfl hk0 ⟨_, _, rfl⟩ (by decide) rfl (Nat.le_of_ble_eq_true rfl) (mX6_squareOfText l D cy kd ln rh _ a0 9 M17 hk0 h) dX6_keyOfText_43 (fun c21 M20 g22 h => ?_)
  have h := h g22
  refine q_istore (lv' := [(5, .int (gI c21)), (4, .int (gI c18)), (3, .int (gI c15)), (2, .int (gI c12)), (1, .int (gI c6)), (0, .ref (gad a0))]) C (by decide) rfl dX6_keyOfText_46 ?_
  refine q_aload_n C 5 rfl rfl dX6_keyOfText_48 ?_
  refine q_get (v := .ref (rh a0 9)) C fX6_43 hk0 (if_neg (Int.not_lt.mpr r1)) dX6_keyOfText_49 (fun g23 => ?_)
  refine q_iconst C dX6_keyOfText_52 ?_
  obtain ⟨r24, h⟩ := h
  refine q_iald C hk0 rfl (fun _ q => q) r24 dX6_keyOfText_53 (fun g25 => ?_)
  have h := h g25
  refine q_bipush C (by decide) dX6_keyOfText_54 ?_
  refine q_icmp_ne (tgt := 110) C g25 (show rng 75 by decide) (by decide) dX6_keyOfText_56 (fun b26 => ?_) (fun b26 => ?_)
  · have h := h.1 b26
    refine q_lv (lv' := [(0, .ref (gad a0)), (1, .int (gI c6)), (2, .int (gI c12)), (3, .int (gI c15)), (4, .int (gI c18)), (5, .int (gI c21))]) [5, 4, 3, 2, 1, 0] rfl ?_
    exact t110  c6 c12 c15 c18 c21 M20 h
  · have h := h.2 b26
    refine q_aload_n C 5 rfl rfl dX6_keyOfText_59 ?_
    refine q_get (v := .ref (rh a0 9)) C fX6_43 hk0 (if_neg (Int.not_lt.mpr r1)) dX6_keyOfText_60 (fun g27 => ?_)
    refine q_iconst C dX6_keyOfText_63 ?_
    obtain ⟨r28, h⟩ := h
    refine q_iald C hk0 rfl (fun _ q => q) r28 dX6_keyOfText_64 (fun g29 => ?_)
    have h := h g29
    refine q_bipush C (by decide) dX6_keyOfText_65 ?_
    refine q_icmp_ne (tgt := 110) C g29 (show rng 32 by decide) (by decide) dX6_keyOfText_67 (fun b30 => ?_) (fun b30 => ?_)
    · have h := h.1 b30
      refine q_lv (lv' := [(0, .ref (gad a0)), (1, .int (gI c6)), (2, .int (gI c12)), (3, .int (gI c15)), (4, .int (gI c18)), (5, .int (gI c21))]) [5, 4, 3, 2, 1, 0] rfl ?_
      exact t110  c6 c12 c15 c18 c21 M20 h
    · have h := h.2 b30
      refine q_aload_n C 5 rfl rfl dX6_keyOfText_70 ?_
      refine q_get (v := .ref (rh a0 9)) C fX6_43 hk0 (if_neg (Int.not_lt.mpr r1)) dX6_keyOfText_71 (fun g31 => ?_)
      refine q_bipush C (by decide) dX6_keyOfText_74 ?_
      obtain ⟨r32, h⟩ := h
      refine q_iald C hk0 rfl (fun _ q => q) r32 dX6_keyOfText_76 (fun g33 => ?_)
      have h := h g33
      refine q_bipush C (by decide) dX6_keyOfText_77 ?_
      refine q_icmp_ne (tgt := 110) C g33 (show rng 32 by decide) (by decide) dX6_keyOfText_79 (fun b34 => ?_) (fun b34 => ?_)
      · have h := h.1 b34
        refine q_lv (lv' := [(0, .ref (gad a0)), (1, .int (gI c6)), (2, .int (gI c12)), (3, .int (gI c15)), (4, .int (gI c18)), (5, .int (gI c21))]) [5, 4, 3, 2, 1, 0] rfl ?_
        exact t110  c6 c12 c15 c18 c21 M20 h
      · have h := h.2 b34
        refine q_aload_n C 5 rfl rfl dX6_keyOfText_82 ?_
        refine q_get (v := .ref (rh a0 9)) C fX6_43 hk0 (if_neg (Int.not_lt.mpr r1)) dX6_keyOfText_83 (fun g35 => ?_)
        refine q_bipush C (by decide) dX6_keyOfText_86 ?_
        obtain ⟨r36, h⟩ := h
        refine q_iald C hk0 rfl (fun _ q => q) r36 dX6_keyOfText_88 (fun g37 => ?_)
        have h := h g37
        refine q_bipush C (by decide) dX6_keyOfText_89 ?_
        refine q_icmp_ne (tgt := 110) C g37 (show rng 107 by decide) (by decide) dX6_keyOfText_91 (fun b38 => ?_) (fun b38 => ?_)
        · have h := h.1 b38
          refine q_lv (lv' := [(0, .ref (gad a0)), (1, .int (gI c6)), (2, .int (gI c12)), (3, .int (gI c15)), (4, .int (gI c18)), (5, .int (gI c21))]) [5, 4, 3, 2, 1, 0] rfl ?_
          exact t110  c6 c12 c15 c18 c21 M20 h
        · have h := h.2 b38
          refine q_aload_n C 5 rfl rfl dX6_keyOfText_94 ?_
          refine q_get (v := .ref (rh a0 9)) C fX6_43 hk0 (if_neg (Int.not_lt.mpr r1)) dX6_keyOfText_95 (fun g39 => ?_)
          refine q_bipush C (by decide) dX6_keyOfText_98 ?_
          obtain ⟨r40, h⟩ := h
          refine q_iald C hk0 rfl (fun _ q => q) r40 dX6_keyOfText_100 (fun g41 => ?_)
          have h := h g41
          refine q_bipush C (by decide) dX6_keyOfText_101 ?_
          refine q_icmp_ne (tgt := 110) C g41 (show rng 32 by decide) (by decide) dX6_keyOfText_103 (fun b42 => ?_) (fun b42 => ?_)
          · have h := h.1 b42
            refine q_lv (lv' := [(0, .ref (gad a0)), (1, .int (gI c6)), (2, .int (gI c12)), (3, .int (gI c15)), (4, .int (gI c18)), (5, .int (gI c21))]) [5, 4, 3, 2, 1, 0] rfl ?_
            exact t110  c6 c12 c15 c18 c21 M20 h
          · have h := h.2 b42
            refine q_iconst C dX6_keyOfText_106 ?_
            refine q_goto (tgt := 111) C (by decide) dX6_keyOfText_107 ?_
            refine q_lv (lv' := [(0, .ref (gad a0)), (1, .int (gI c6)), (2, .int (gI c12)), (3, .int (gI c15)), (4, .int (gI c18)), (5, .int (gI c21))]) [5, 4, 3, 2, 1, 0] rfl ?_
            exact t111  c6 c12 c15 c18 c21 1 M20 h
set_option maxHeartbeats 4000000 in
set_option maxRecDepth 100000 in
theorem mX6_line (l : Launch) (D : va_G) (cy : Nat → ClassId) (kd : gKd) (ln : gLn) (rh : gRh) (post : Int → gM → Prop) (px : gM → Prop) (a0 : Int) (a1 : Int) (a2 : Int) (a3 : Int) (a4 : Int) (a5 : Int) (M : gM) (hst : l.stackTraces = false) (hk0 : kd a0 = 6) (h : wX6_line kd ln post px a0 a1 a2 a3 a4 a5 M) : gTI l D cy yX6_line cX6_line 8 .int 8 174 [.ref (gad a0), .int (gI a1), .int (gI a2), .int (gI a3), .int (gI a4), .int (gI a5)] kd ln rh M post px := by
  refine gTI_of (own := RX6) (by decide) rfl (Nat.le_of_ble_eq_true rfl) hst rfl ?_
  intro p e s m args below meth c A H0 Q C hret hthr hexc
  have t120 : ∀ (M : gM), wX6_line_120 kd ln post px a0 a1 a2 a3 a4 a5  M → gW p l e (gRt 8 174) s m args below meth c D cy A H0 Q 8 kd ln rh 1 6 M 120 [(0, .ref (gad a0))] [] := by
    intro   M h
    unfold wX6_line_120 at h
    refine q_aload_n C 0 rfl rfl dX6_line_120 ?_
    refine q_get (v := .int (gI (M a0 8 (-1)))) C fX6_56 hk0 rfl dX6_line_121 (fun g50 => ?_)
    have h := h g50
    refine q_iconst C dX6_line_124 ?_
    refine q_isub C dX6_line_125 ?_
    obtain ⟨r51, h⟩ := h
    exact hret ((M a0 8 (-1)) - 1) M _ _ 1 6 (by decide) (by decide) dX6_line_126 r51 h
  have t53 : ∀ (n : Nat) (x7 : Int) (M : gM), wX6_line_53 kd ln post px a0 a1 a2 a3 a4 a5 n x7 M → gW p l e (gRt 8 174) s m args below meth c D cy A H0 Q 8 kd ln rh 1 6 M 53 [(0, .ref (gad a0)), (7, .int (gI x7))] [] := by
    intro n
    induction n with
    | zero => intro x7 M h; exact absurd h (by simp [wX6_line_53])
    | succ n ih =>
      intro x7 M h
      have hk53_ := ih
      rw [wX6_line_53] at h
      refine q_iload C 1 rfl dX6_line_53 ?_
      obtain ⟨r18, h⟩ := h
      refine q_if_le (tgt := 120) C r18 (by decide) dX6_line_55 (fun b19 => ?_) (fun b19 => ?_)
      · have h := h.1 b19
        refine q_lv (lv' := [(0, .ref (gad a0))]) [0] rfl ?_
        exact t120  M h
      · have h := h.2 b19
        refine q_aload_n C 0 rfl rfl dX6_line_58 ?_
        refine q_aload_n C 0 rfl rfl dX6_line_59 ?_
        refine q_get (v := gR (M a0 5 (-1))) C fX6_33 hk0 rfl dX6_line_60 (fun g20 => ?_)
        obtain ⟨r21, h⟩ := h
        refine q_nn r21 (by decide) ?_
        refine q_aload_n C 0 rfl rfl dX6_line_63 ?_
        refine q_get (v := gR (M a0 6 (-1))) C fX6_36 hk0 rfl dX6_line_64 (fun g22 => ?_)
        obtain ⟨r23, h⟩ := h
        refine q_nn r23 (by decide) ?_
        refine q_callVV (As := [.ref (gad (M a0 5 (-1))), .ref (gad (M a0 6 (-1)))]) (st := []) C vX6_110 kX6_gather ⟨by decide, by decide⟩ ⟨by decide, by decide⟩ rfl hk0 ⟨_, _, rfl⟩ (by decide) rfl (Nat.le_of_ble_eq_true rfl) (mX6_gather l D cy kd ln rh _ a0 (M a0 5 (-1)) (M a0 6 (-1)) M hk0 r21 r23 h) dX6_line_67 (fun M24 h => ?_)
        refine q_aload_n C 0 rfl rfl dX6_line_70 ?_
        refine q_get (v := gR (M24 a0 5 (-1))) C fX6_33 hk0 rfl dX6_line_71 (fun g27 => ?_)
        obtain ⟨r28, h⟩ := h
        refine q_nn r28 (by decide) ?_
        refine q_iload C 1 rfl dX6_line_74 ?_
        refine q_callSI (As := [.int (gI x7)]) (st := [.ref (gad (M24 a0 5 (-1)))]) C vX6_114 kX6_goalAfter ⟨by decide, by decide⟩ ⟨by decide, by decide⟩ rfl rfl (Nat.le_of_ble_eq_true rfl) (mX6_goalAfter l D cy kd ln rh _ x7 M24  h) dX6_line_76 (fun c30 M29 g31 h => ?_)
        have h := h g31
        refine q_callVV (As := [.int (gI c30)]) (st := []) C vX6_118 kX1_keep ⟨by decide, by decide⟩ ⟨by decide, by decide⟩ rfl r28 ⟨_, _, rfl⟩ (by decide) rfl (Nat.le_of_ble_eq_true rfl) (mX1_keep l D cy kd ln rh _ (M24 a0 5 (-1)) c30 M29 r28 h) dX6_line_79 (fun M32 h => ?_)
        refine q_aload_n C 0 rfl rfl dX6_line_82 ?_
        refine q_get (v := gR (M32 a0 5 (-1))) C fX6_33 hk0 rfl dX6_line_83 (fun g35 => ?_)
        obtain ⟨r36, h⟩ := h
        refine q_nn r36 (by decide) ?_
        refine q_get (v := .int (gI (M32 (M32 a0 5 (-1)) 0 (-1)))) C fX6_121 r36 rfl dX6_line_86 (fun g37 => ?_)
        have h := h g37
        refine q_if_ne (tgt := 95) C g37 (by decide) dX6_line_89 (fun b38 => ?_) (fun b38 => ?_)
        · have h := h.1 b38
          refine q_aload_n C 0 rfl rfl dX6_line_95 ?_
          refine q_get (v := gR (M32 a0 6 (-1))) C fX6_36 hk0 rfl dX6_line_96 (fun g39 => ?_)
          obtain ⟨r40, h⟩ := h
          refine q_nn r40 (by decide) ?_
          refine q_aload_n C 0 rfl rfl dX6_line_99 ?_
          refine q_get (v := gR (M32 a0 5 (-1))) C fX6_33 hk0 rfl dX6_line_100 (fun g41 => ?_)
          refine q_nn r36 (by decide) ?_
          refine q_callVV (As := [.ref (gad (M32 a0 5 (-1)))]) (st := []) C vX6_131 kX4_play ⟨by decide, by decide⟩ ⟨by decide, by decide⟩ rfl r40 ⟨_, _, rfl⟩ (by decide) rfl (Nat.le_of_ble_eq_true rfl) (mX4_play l D cy kd ln rh _ (M32 a0 6 (-1)) (M32 a0 5 (-1)) M32 r40 r36 h) dX6_line_103 (fun M42 h => ?_)
          refine q_aload_n C 0 rfl rfl dX6_line_106 ?_
          refine q_aload_n C 0 rfl rfl dX6_line_107 ?_
          refine q_get (v := gR (M42 a0 6 (-1))) C fX6_36 hk0 rfl dX6_line_108 (fun g45 => ?_)
          obtain ⟨r46, h⟩ := h
          refine q_nn r46 (by decide) ?_
          refine q_callVV (As := [.ref (gad (M42 a0 6 (-1)))]) (st := []) C vX6_127 kX6_addToLine ⟨by decide, by decide⟩ ⟨by decide, by decide⟩ rfl hk0 ⟨_, _, rfl⟩ (by decide) rfl (Nat.le_of_ble_eq_true rfl) (mX6_addToLine l D cy kd ln rh _ a0 (M42 a0 6 (-1)) M42 hk0 r46 h) dX6_line_111 (fun M47 h => ?_)
          refine q_iinc (lv' := [(7, .int (gI (x7 + (-1)))), (0, .ref (gad a0))]) C 1 rfl (by decide) rfl dX6_line_114 ?_
          refine q_goto (tgt := 53) C (by decide) dX6_line_117 ?_
          refine q_lv (lv' := [(0, .ref (gad a0)), (7, .int (gI (x7 + (-1))))]) [1, 0] rfl ?_
          exact hk53_ (x7 + (-1)) M47 h
        · have h := h.2 b38
          refine q_goto (tgt := 120) C (by decide) dX6_line_92 ?_
          refine q_lv (lv' := [(0, .ref (gad a0))]) [0] rfl ?_
          exact t120  M32 h
  unfold wX6_line at h
  refine q_aload_n C 0 rfl rfl dX6_line_0 ?_
  refine q_iload_n C 1 rfl rfl dX6_line_1 ?_
  refine q_iload_n C 2 rfl rfl dX6_line_2 ?_
  refine q_iload_n C 3 rfl rfl dX6_line_3 ?_
  refine q_iload C 4 rfl dX6_line_4 ?_
  refine q_iload C 5 rfl dX6_line_6 ?_
  refine q_callTR (As := [.int (gI a1), .int (gI a2), .int (gI a3), .int (gI a4), .int (gI a5)]) (st := []) C vX6_98 kX6_demandTable ⟨by decide, by decide⟩ ⟨by decide, by decide⟩ rfl hk0 ⟨_, _, rfl⟩ (by decide) rfl (Nat.le_of_ble_eq_true rfl) (mX6_demandTable l D cy kd ln rh _ _ a0 a1 a2 a3 a4 a5 M hst hk0 h) dX6_line_8 (fun M9 h => hexc M9 _ _ _ _ _ (by decide) (by decide) h) (fun c2 M1 h => ?_)
  refine q_iload_n C 2 rfl rfl dX6_line_11 ?_
  refine q_iload_n C 3 rfl rfl dX6_line_12 ?_
  refine q_iload C 4 rfl dX6_line_13 ?_
  refine q_iload C 5 rfl dX6_line_15 ?_
  obtain ⟨r4, h⟩ := h
  refine q_callVI (As := [.int (gI a2), .int (gI a3), .int (gI a4), .int (gI a5)]) (st := []) C vX6_102 kX5_look ⟨by decide, by decide⟩ ⟨by decide, by decide⟩ rfl r4 ⟨_, _, rfl⟩ (by decide) rfl (Nat.le_of_ble_eq_true rfl) (mX5_look l D cy kd ln rh _ c2 a2 a3 a4 a5 M1 r4 h) dX6_line_17 (fun c6 M5 g7 h => ?_)
  have h := h g7
  refine q_istore (lv' := [(6, .int (gI c6)), (0, .ref (gad a0)), (1, .int (gI a1)), (2, .int (gI a2)), (3, .int (gI a3)), (4, .int (gI a4)), (5, .int (gI a5))]) C (by decide) rfl dX6_line_20 ?_
  refine q_aload_n C 1 rfl rfl dX6_line_22 ?_
  refine q_get (v := gR (M5 a0 6 (-1))) C fX6_36 hk0 rfl dX6_line_23 (fun g8 => ?_)
  obtain ⟨r9, h⟩ := h
  refine q_nn r9 (by decide) ?_
  refine q_iload_n C 2 rfl rfl dX6_line_26 ?_
  refine q_iload_n C 3 rfl rfl dX6_line_27 ?_
  refine q_iload_n C 4 rfl rfl dX6_line_28 ?_
  refine q_iload C 5 rfl dX6_line_29 ?_
  refine q_iload C 6 rfl dX6_line_31 ?_
  refine q_callVV (As := [.int (gI a1), .int (gI a2), .int (gI a3), .int (gI a4), .int (gI a5)]) (st := []) C vX6_106 kX4_set ⟨by decide, by decide⟩ ⟨by decide, by decide⟩ rfl r9 ⟨_, _, rfl⟩ (by decide) rfl (Nat.le_of_ble_eq_true rfl) (mX4_set l D cy kd ln rh _ (M5 a0 6 (-1)) a1 a2 a3 a4 a5 M5 r9 h) dX6_line_33 (fun M10 h => ?_)
  refine q_aload_n C 1 rfl rfl dX6_line_36 ?_
  refine q_iconst C dX6_line_37 ?_
  refine q_put (x := 0) (ty := .int) C fX6_56 hk0 (fun _ _ _ q => by cases q; rfl) (congrArg (fun z => Value.int (gI z)) gu_s) rfl rfl (show rng 0 by decide) dX6_line_38 ?_
  refine q_aload_n C 1 rfl rfl dX6_line_41 ?_
  refine q_aload_n C 1 rfl rfl dX6_line_42 ?_
  refine q_get (v := gR ((gu M10 a0 8 (-1) 0) a0 6 (-1))) C fX6_36 hk0 rfl dX6_line_43 (fun g13 => ?_)
  obtain ⟨r14, h⟩ := h
  refine q_nn r14 (by decide) ?_
  refine q_callVV (As := [.ref (gad ((gu M10 a0 8 (-1) 0) a0 6 (-1)))]) (st := []) C vX6_127 kX6_addToLine ⟨by decide, by decide⟩ ⟨by decide, by decide⟩ rfl hk0 ⟨_, _, rfl⟩ (by decide) rfl (Nat.le_of_ble_eq_true rfl) (mX6_addToLine l D cy kd ln rh _ a0 ((gu M10 a0 8 (-1) 0) a0 6 (-1)) (gu M10 a0 8 (-1) 0) hk0 r14 h) dX6_line_46 (fun M15 h => ?_)
  refine q_iload C 0 rfl dX6_line_49 ?_
  refine q_istore (lv' := [(7, .int (gI c6)), (6, .int (gI c6)), (0, .ref (gad a0)), (1, .int (gI a1)), (2, .int (gI a2)), (3, .int (gI a3)), (4, .int (gI a4)), (5, .int (gI a5))]) C (by decide) rfl dX6_line_51 ?_
  refine q_lv (lv' := [(0, .ref (gad a0)), (7, .int (gI c6))]) [2, 0] rfl ?_
  obtain ⟨j53, h⟩ := h
  exact t53  j53 c6 M15 h
set_option maxHeartbeats 4000000 in
set_option maxRecDepth 100000 in
theorem mX6_longest (l : Launch) (D : va_G) (cy : Nat → ClassId) (kd : gKd) (ln : gLn) (rh : gRh) (post : Int → gM → Prop) (px : gM → Prop) (a0 : Int) (a1 : Int) (a2 : Int) (a3 : Int) (M : gM) (hst : l.stackTraces = false) (hk0 : kd a0 = 6) (h : wX6_longest kd ln post px a0 a1 a2 a3 M) : gTI l D cy yX6_longest cX6_longest 5 .int 8 140 [.ref (gad a0), .int (gI a1), .int (gI a2), .int (gI a3)] kd ln rh M post px := by
  refine gTI_of (own := RX6) (by decide) rfl (Nat.le_of_ble_eq_true rfl) hst rfl ?_
  intro p e s m args below meth c A H0 Q C hret hthr hexc
  unfold wX6_longest at h
  refine q_aload_n C 0 rfl rfl dX6_longest_0 ?_
  refine q_iload_n C 1 rfl rfl dX6_longest_1 ?_
  refine q_iload_n C 2 rfl rfl dX6_longest_2 ?_
  refine q_callTR (As := [.int (gI a1), .int (gI a2)]) (st := []) C vX6_145 kX6_demandTurn ⟨by decide, by decide⟩ ⟨by decide, by decide⟩ rfl hk0 ⟨_, _, rfl⟩ (by decide) rfl (Nat.le_of_ble_eq_true rfl) (mX6_demandTurn l D cy kd ln rh _ _ a0 a1 a2 M hst hk0 h) dX6_longest_3 (fun M9 h => hexc M9 _ _ _ _ _ (by decide) (by decide) h) (fun c2 M1 h => ?_)
  refine q_astore (lv' := [(4, .ref (gad c2)), (0, .ref (gad a0)), (1, .int (gI a1)), (2, .int (gI a2)), (3, .int (gI a3))]) C (by decide) rfl dX6_longest_6 ?_
  refine q_iload_n C 4 rfl rfl dX6_longest_8 ?_
  obtain ⟨r4, h⟩ := h
  refine q_if_ne (tgt := 20) C r4 (by decide) dX6_longest_9 (fun b5 => ?_) (fun b5 => ?_)
  · have h := h.1 b5
    refine q_iload_n C 4 rfl rfl dX6_longest_20 ?_
    refine q_iconst C dX6_longest_21 ?_
    refine q_icmp_ne (tgt := 35) C r4 (show rng 1 by decide) (by decide) dX6_longest_22 (fun b6 => ?_) (fun b6 => ?_)
    · have h := h.1 b6
      refine q_iconst C dX6_longest_35 ?_
      exact hret (-1) M1 _ _ 1 6 (by decide) (by decide) dX6_longest_36 (show rng (-1) by decide) h
    · have h := h.2 b6
      refine q_aload C 0 rfl dX6_longest_25 ?_
      obtain ⟨r7, h⟩ := h
      obtain ⟨r8, h⟩ := h
      refine q_get (v := .ref (rh c2 6)) C fX6_164 r7 (if_neg (Int.not_lt.mpr r8)) dX6_longest_27 (fun g9 => ?_)
      refine q_iload_n C 3 rfl rfl dX6_longest_30 ?_
      obtain ⟨r10, h⟩ := h
      refine q_iald C r7 rfl (fun _ q => q) r10 dX6_longest_31 (fun g11 => ?_)
      have h := h g11
      refine q_goto (tgt := 36) C (by decide) dX6_longest_32 ?_
      exact hret (M1 c2 6 a2) M1 _ _ 1 6 (by decide) (by decide) dX6_longest_36 g11 h
  · have h := h.2 b5
    refine q_aload C 0 rfl dX6_longest_12 ?_
    obtain ⟨r12, h⟩ := h
    obtain ⟨r13, h⟩ := h
    refine q_get (v := .ref (rh c2 5)) C fX6_161 r12 (if_neg (Int.not_lt.mpr r13)) dX6_longest_14 (fun g14 => ?_)
    refine q_iload_n C 3 rfl rfl dX6_longest_17 ?_
    obtain ⟨r15, h⟩ := h
    refine q_iald C r12 rfl (fun _ q => q) r15 dX6_longest_18 (fun g16 => ?_)
    have h := h g16
    exact hret (M1 c2 5 a2) M1 _ _ 1 6 (by decide) (by decide) dX6_longest_19 g16 h
set_option maxHeartbeats 4000000 in
set_option maxRecDepth 100000 in
theorem mX6_move (l : Launch) (D : va_G) (cy : Nat → ClassId) (kd : gKd) (ln : gLn) (rh : gRh) (post : Int → gM → Prop) (a0 : Int) (a1 : Int) (a2 : Int) (M : gM) (hk0 : kd a0 = 6) (h : wX6_move kd ln post a0 a1 a2 M) : gMI l D cy yX6_move cX6_move 3 .int 1 22 [.ref (gad a0), .int (gI a1), .int (gI a2)] kd ln rh M post := by
  refine gMI_of (own := RX6) (by decide) rfl (Nat.le_of_ble_eq_true rfl) ?_
  intro p e s m args below meth c A H0 Q C hret
  unfold wX6_move at h
  refine q_aload_n C 0 rfl rfl dX6_move_0 ?_
  refine q_get (v := gR (M a0 3 (-1))) C fX6_22 hk0 rfl dX6_move_1 (fun g1 => ?_)
  obtain ⟨r2, h⟩ := h
  refine q_nn r2 (by decide) ?_
  refine q_iload_n C 1 rfl rfl dX6_move_4 ?_
  refine q_iload_n C 2 rfl rfl dX6_move_5 ?_
  refine q_callVI (As := [.int (gI a1), .int (gI a2)]) (st := []) C vX6_123 kX1_tell ⟨by decide, by decide⟩ ⟨by decide, by decide⟩ rfl r2 ⟨_, _, rfl⟩ (by decide) rfl (Nat.le_of_ble_eq_true rfl) (mX1_tell l D cy kd ln rh _ (M a0 3 (-1)) a1 a2 M r2 h) dX6_move_6 (fun c4 M3 g5 h => ?_)
  have h := h g5
  exact hret c4 M3 _ _ dX6_move_9 g5 h
set_option maxHeartbeats 4000000 in
set_option maxRecDepth 100000 in
theorem mX6_moves (l : Launch) (D : va_G) (cy : Nat → ClassId) (kd : gKd) (ln : gLn) (rh : gRh) (post : Int → gM → Prop) (a0 : Int) (a1 : Int) (a2 : Int) (a3 : Int) (a4 : Int) (a5 : Int) (M : gM) (hk0 : kd a0 = 6) (h : wX6_moves kd ln post a0 a1 a2 a3 a4 a5 M) : gMI l D cy yX6_moves cX6_moves 8 .int 3 72 [.ref (gad a0), .int (gI a1), .int (gI a2), .int (gI a3), .int (gI a4), .int (gI a5)] kd ln rh M post := by
  refine gMI_of (own := RX6) (by decide) rfl (Nat.le_of_ble_eq_true rfl) ?_
  intro p e s m args below meth c A H0 Q C hret
  have t88 : ∀ (x6 : Int) (y0 : Int) (M : gM), wX6_moves_88 kd ln post a0 a1 a2 a3 a4 a5 x6 y0 M → gW p l e (gRm 3 72) s m args below meth c D cy A H0 Q 8 kd ln rh 0 0 M 88 [(0, .ref (gad a0)), (2, .int (gI a2)), (3, .int (gI a3)), (4, .int (gI a4)), (6, .int (gI x6))] [.int (gI y0)] := by
    intro  x6 y0 M h
    unfold wX6_moves_88 at h
    refine q_istore (lv' := [(7, .int (gI y0)), (0, .ref (gad a0)), (2, .int (gI a2)), (3, .int (gI a3)), (4, .int (gI a4)), (6, .int (gI x6))]) C (by decide) rfl dX6_moves_88 ?_
    refine q_aload_n C 1 rfl rfl dX6_moves_90 ?_
    refine q_get (v := gR (M a0 1 (-1))) C fX6_52 hk0 rfl dX6_moves_91 (fun g35 => ?_)
    obtain ⟨r36, h⟩ := h
    refine q_nn r36 (by decide) ?_
    refine q_iload_n C 2 rfl rfl dX6_moves_94 ?_
    refine q_iload_n C 3 rfl rfl dX6_moves_95 ?_
    refine q_iload C 4 rfl dX6_moves_96 ?_
    refine q_callVL (As := [.int (gI a2), .int (gI a3), .int (gI a4)]) (st := []) C vX6_94 kX0_whiteTargets ⟨by decide, by decide⟩ ⟨by decide, by decide⟩ rfl r36 ⟨_, _, rfl⟩ (by decide) rfl (Nat.le_of_ble_eq_true rfl) (mX0_whiteTargets l D cy kd ln rh _ (M a0 1 (-1)) a2 a3 a4 M r36 h) dX6_moves_98 (fun c38 M37 h => ?_)
    refine q_callSI (As := [.long (gL c38)]) (st := []) C vX6_78 kJ13_bitCount_95d88 ⟨by decide, by decide⟩ ⟨by decide, by decide⟩ rfl rfl (Nat.le_of_ble_eq_true rfl) (mJ13_bitCount_95d88 l D cy kd ln rh _ c38 M37  h) dX6_moves_101 (fun c41 M40 g42 h => ?_)
    have h := h g42
    refine q_iload C 0 rfl dX6_moves_104 ?_
    refine q_iload C 5 rfl dX6_moves_106 ?_
    refine q_imul C dX6_moves_108 ?_
    refine q_iadd C dX6_moves_109 ?_
    obtain ⟨r43, h⟩ := h
    exact hret (c41 + (y0 * x6)) M40 _ _ dX6_moves_110 r43 h
  have t87 : ∀ (x6 : Int) (M : gM), wX6_moves_87 kd ln post a0 a1 a2 a3 a4 a5 x6 M → gW p l e (gRm 3 72) s m args below meth c D cy A H0 Q 8 kd ln rh 0 0 M 87 [(0, .ref (gad a0)), (2, .int (gI a2)), (3, .int (gI a3)), (4, .int (gI a4)), (6, .int (gI x6))] [] := by
    intro  x6 M h
    unfold wX6_moves_87 at h
    refine q_iconst C dX6_moves_87 ?_
    exact t88  x6 1 M h
  unfold wX6_moves at h
  refine q_aload_n C 0 rfl rfl dX6_moves_0 ?_
  refine q_get (v := gR (M a0 1 (-1))) C fX6_52 hk0 rfl dX6_moves_1 (fun g1 => ?_)
  obtain ⟨r2, h⟩ := h
  refine q_nn r2 (by decide) ?_
  refine q_iload_n C 1 rfl rfl dX6_moves_4 ?_
  refine q_iload_n C 2 rfl rfl dX6_moves_5 ?_
  refine q_iload_n C 3 rfl rfl dX6_moves_6 ?_
  refine q_iload C 4 rfl dX6_moves_7 ?_
  refine q_iload C 5 rfl dX6_moves_9 ?_
  refine q_callVI (As := [.int (gI a1), .int (gI a2), .int (gI a3), .int (gI a4), .int (gI a5)]) (st := []) C vX6_70 kX0_allows ⟨by decide, by decide⟩ ⟨by decide, by decide⟩ rfl r2 ⟨_, _, rfl⟩ (by decide) rfl (Nat.le_of_ble_eq_true rfl) (mX0_allows l D cy kd ln rh _ (M a0 1 (-1)) a1 a2 a3 a4 a5 M r2 h) dX6_moves_11 (fun c4 M3 g5 h => ?_)
  have h := h g5
  refine q_if_ne (tgt := 19) C g5 (by decide) dX6_moves_14 (fun b6 => ?_) (fun b6 => ?_)
  · have h := h.1 b6
    refine q_iload C 5 rfl dX6_moves_19 ?_
    refine q_iconst C dX6_moves_21 ?_
    obtain ⟨r7, h⟩ := h
    refine q_icmp_ne (tgt := 41) C r7 (show rng 1 by decide) (by decide) dX6_moves_22 (fun b8 => ?_) (fun b8 => ?_)
    · have h := h.1 b8
      refine q_aload_n C 0 rfl rfl dX6_moves_41 ?_
      refine q_get (v := gR (M3 a0 1 (-1))) C fX6_52 hk0 rfl dX6_moves_42 (fun g9 => ?_)
      obtain ⟨r10, h⟩ := h
      refine q_nn r10 (by decide) ?_
      refine q_iload_n C 1 rfl rfl dX6_moves_45 ?_
      refine q_iload_n C 2 rfl rfl dX6_moves_46 ?_
      refine q_iload_n C 3 rfl rfl dX6_moves_47 ?_
      refine q_iload C 4 rfl dX6_moves_48 ?_
      refine q_callVL (As := [.int (gI a1), .int (gI a2), .int (gI a3), .int (gI a4)]) (st := []) C vX6_84 kX0_manTargets ⟨by decide, by decide⟩ ⟨by decide, by decide⟩ rfl r10 ⟨_, _, rfl⟩ (by decide) rfl (Nat.le_of_ble_eq_true rfl) (mX0_manTargets l D cy kd ln rh _ (M3 a0 1 (-1)) a1 a2 a3 a4 M3 r10 h) dX6_moves_50 (fun c12 M11 h => ?_)
      refine q_callSI (As := [.long (gL c12)]) (st := []) C vX6_78 kJ13_bitCount_95d88 ⟨by decide, by decide⟩ ⟨by decide, by decide⟩ rfl rfl (Nat.le_of_ble_eq_true rfl) (mJ13_bitCount_95d88 l D cy kd ln rh _ c12 M11  h) dX6_moves_53 (fun c15 M14 g16 h => ?_)
      have h := h g16
      refine q_istore (lv' := [(6, .int (gI c15)), (0, .ref (gad a0)), (1, .int (gI a1)), (2, .int (gI a2)), (3, .int (gI a3)), (4, .int (gI a4)), (5, .int (gI a5))]) C (by decide) rfl dX6_moves_56 ?_
      refine q_iload_n C 2 rfl rfl dX6_moves_58 ?_
      refine q_iconst C dX6_moves_59 ?_
      obtain ⟨r17, h⟩ := h
      refine q_icmp_ne (tgt := 87) C r17 (show rng 2 by decide) (by decide) dX6_moves_60 (fun b18 => ?_) (fun b18 => ?_)
      · have h := h.1 b18
        refine q_lv (lv' := [(0, .ref (gad a0)), (2, .int (gI a2)), (3, .int (gI a3)), (4, .int (gI a4)), (6, .int (gI c15))]) [1, 3, 4, 5, 0] rfl ?_
        exact t87  c15 M14 h
      · have h := h.2 b18
        refine q_aload_n C 1 rfl rfl dX6_moves_63 ?_
        refine q_get (v := gR (M14 a0 1 (-1))) C fX6_52 hk0 rfl dX6_moves_64 (fun g19 => ?_)
        obtain ⟨r20, h⟩ := h
        refine q_nn r20 (by decide) ?_
        refine q_iload C 5 rfl dX6_moves_67 ?_
        refine q_aload_n C 1 rfl rfl dX6_moves_69 ?_
        refine q_get (v := gR (M14 a0 1 (-1))) C fX6_52 hk0 rfl dX6_moves_70 (fun g21 => ?_)
        refine q_nn r20 (by decide) ?_
        refine q_get (v := .int (gI (M14 (M14 a0 1 (-1)) 0 (-1)))) C fX6_87 r20 rfl dX6_moves_73 (fun g22 => ?_)
        have h := h g22
        refine q_iadd C dX6_moves_76 ?_
        refine q_callVI (As := [.int (gI (a4 + (M14 (M14 a0 1 (-1)) 0 (-1))))]) (st := []) C vX6_90 kX0_isLastRank ⟨by decide, by decide⟩ ⟨by decide, by decide⟩ rfl r20 ⟨_, _, rfl⟩ (by decide) rfl (Nat.le_of_ble_eq_true rfl) (mX0_isLastRank l D cy kd ln rh _ (M14 a0 1 (-1)) (a4 + (M14 (M14 a0 1 (-1)) 0 (-1))) M14 r20 h) dX6_moves_77 (fun c24 M23 g25 h => ?_)
        have h := h g25
        refine q_if_eq (tgt := 87) C g25 (by decide) dX6_moves_80 (fun b26 => ?_) (fun b26 => ?_)
        · have h := h.1 b26
          refine q_lv (lv' := [(0, .ref (gad a0)), (2, .int (gI a2)), (3, .int (gI a3)), (4, .int (gI a4)), (6, .int (gI c15))]) [1, 3, 4, 5, 0] rfl ?_
          exact t87  c15 M23 h
        · have h := h.2 b26
          refine q_iconst C dX6_moves_83 ?_
          refine q_goto (tgt := 88) C (by decide) dX6_moves_84 ?_
          refine q_lv (lv' := [(0, .ref (gad a0)), (2, .int (gI a2)), (3, .int (gI a3)), (4, .int (gI a4)), (6, .int (gI c15))]) [1, 3, 4, 5, 0] rfl ?_
          exact t88  c15 4 M23 h
    · have h := h.2 b8
      refine q_aload_n C 0 rfl rfl dX6_moves_25 ?_
      refine q_get (v := gR (M3 a0 1 (-1))) C fX6_52 hk0 rfl dX6_moves_26 (fun g27 => ?_)
      obtain ⟨r28, h⟩ := h
      refine q_nn r28 (by decide) ?_
      refine q_iload_n C 1 rfl rfl dX6_moves_29 ?_
      refine q_iload_n C 2 rfl rfl dX6_moves_30 ?_
      refine q_iload_n C 3 rfl rfl dX6_moves_31 ?_
      refine q_iload C 4 rfl dX6_moves_32 ?_
      refine q_callVL (As := [.int (gI a1), .int (gI a2), .int (gI a3), .int (gI a4)]) (st := []) C vX6_74 kX0_blackTargets ⟨by decide, by decide⟩ ⟨by decide, by decide⟩ rfl r28 ⟨_, _, rfl⟩ (by decide) rfl (Nat.le_of_ble_eq_true rfl) (mX0_blackTargets l D cy kd ln rh _ (M3 a0 1 (-1)) a1 a2 a3 a4 M3 r28 h) dX6_moves_34 (fun c30 M29 h => ?_)
      refine q_callSI (As := [.long (gL c30)]) (st := []) C vX6_78 kJ13_bitCount_95d88 ⟨by decide, by decide⟩ ⟨by decide, by decide⟩ rfl rfl (Nat.le_of_ble_eq_true rfl) (mJ13_bitCount_95d88 l D cy kd ln rh _ c30 M29  h) dX6_moves_37 (fun c33 M32 g34 h => ?_)
      have h := h g34
      exact hret c33 M32 _ _ dX6_moves_40 g34 h
  · have h := h.2 b6
    refine q_iconst C dX6_moves_17 ?_
    exact hret (-1) M3 _ _ dX6_moves_18 (show rng (-1) by decide) h
set_option maxHeartbeats 4000000 in
set_option maxRecDepth 100000 in
theorem mX6_number (l : Launch) (D : va_G) (cy : Nat → ClassId) (kd : gKd) (ln : gLn) (rh : gRh) (post : Int → gM → Prop) (px : gM → Prop) (a0 : Int) (a1 : Int) (a2 : Int) (a3 : Int) (a4 : Int) (a5 : Int) (M : gM) (hst : l.stackTraces = false) (hk0 : kd a0 = 6) (h : wX6_number kd ln post px a0 a1 a2 a3 a4 a5 M) : gTI l D cy yX6_number cX6_number 6 .int 8 143 [.ref (gad a0), .int (gI a1), .int (gI a2), .int (gI a3), .int (gI a4), .int (gI a5)] kd ln rh M post px := by
  refine gTI_of (own := RX6) (by decide) rfl (Nat.le_of_ble_eq_true rfl) hst rfl ?_
  intro p e s m args below meth c A H0 Q C hret hthr hexc
  unfold wX6_number at h
  refine q_aload_n C 0 rfl rfl dX6_number_0 ?_
  refine q_iload_n C 1 rfl rfl dX6_number_1 ?_
  refine q_iload_n C 2 rfl rfl dX6_number_2 ?_
  refine q_iload_n C 3 rfl rfl dX6_number_3 ?_
  refine q_iload C 4 rfl dX6_number_4 ?_
  refine q_iload C 5 rfl dX6_number_6 ?_
  refine q_callTR (As := [.int (gI a1), .int (gI a2), .int (gI a3), .int (gI a4), .int (gI a5)]) (st := []) C vX6_98 kX6_demandTable ⟨by decide, by decide⟩ ⟨by decide, by decide⟩ rfl hk0 ⟨_, _, rfl⟩ (by decide) rfl (Nat.le_of_ble_eq_true rfl) (mX6_demandTable l D cy kd ln rh _ _ a0 a1 a2 a3 a4 a5 M hst hk0 h) dX6_number_8 (fun M9 h => hexc M9 _ _ _ _ _ (by decide) (by decide) h) (fun c2 M1 h => ?_)
  refine q_iload_n C 2 rfl rfl dX6_number_11 ?_
  refine q_iload_n C 3 rfl rfl dX6_number_12 ?_
  refine q_iload C 4 rfl dX6_number_13 ?_
  refine q_iload C 5 rfl dX6_number_15 ?_
  obtain ⟨r4, h⟩ := h
  refine q_callVI (As := [.int (gI a2), .int (gI a3), .int (gI a4), .int (gI a5)]) (st := []) C vX6_135 kX5_numberOf ⟨by decide, by decide⟩ ⟨by decide, by decide⟩ rfl r4 ⟨_, _, rfl⟩ (by decide) rfl (Nat.le_of_ble_eq_true rfl) (mX5_numberOf l D cy kd ln rh _ c2 a2 a3 a4 a5 M1 r4 h) dX6_number_17 (fun c6 M5 g7 h => ?_)
  have h := h g7
  exact hret c6 M5 _ _ 1 6 (by decide) (by decide) dX6_number_20 g7 h
set_option maxHeartbeats 4000000 in
set_option maxRecDepth 100000 in
theorem mX6_out (l : Launch) (D : va_G) (cy : Nat → ClassId) (kd : gKd) (ln : gLn) (rh : gRh) (post : Int → gM → Prop) (a0 : Int) (a1 : Int) (M : gM) (hk0 : kd a0 = 6) (h : wX6_out kd ln post a0 a1 M) : gMI l D cy yX6_out cX6_out 2 .int 0 0 [.ref (gad a0), .int (gI a1)] kd ln rh M post := by
  refine gMI_of (own := RX6) (by decide) rfl (Nat.le_of_ble_eq_true rfl) ?_
  intro p e s m args below meth c A H0 Q C hret
  have t12 : ∀ (M : gM), wX6_out_12 kd ln post a0 a1  M → gW p l e (gRm 0 0) s m args below meth c D cy A H0 Q 2 kd ln rh 0 0 M 12 [] [] := by
    intro   M h
    unfold wX6_out_12 at h
    refine q_iconst C dX6_out_12 ?_
    refine q_goto (tgt := 22) C (by decide) dX6_out_13 ?_
    exact hret (-1) M _ _ dX6_out_22 (show rng (-1) by decide) h
  unfold wX6_out at h
  refine q_iload_n C 1 rfl rfl dX6_out_0 ?_
  obtain ⟨r1, h⟩ := h
  refine q_if_lt (tgt := 12) C r1 (by decide) dX6_out_1 (fun b2 => ?_) (fun b2 => ?_)
  · have h := h.1 b2
    refine q_lv (lv' := []) [] rfl ?_
    exact t12  M h
  · have h := h.2 b2
    refine q_iload_n C 1 rfl rfl dX6_out_4 ?_
    refine q_aload_n C 0 rfl rfl dX6_out_5 ?_
    refine q_get (v := .int (gI (M a0 12 (-1)))) C fX6_187 hk0 rfl dX6_out_6 (fun g3 => ?_)
    have h := h g3
    refine q_icmp_lt (tgt := 16) C r1 g3 (by decide) dX6_out_9 (fun b4 => ?_) (fun b4 => ?_)
    · have h := h.1 b4
      refine q_aload_n C 0 rfl rfl dX6_out_16 ?_
      obtain ⟨r5, h⟩ := h
      refine q_get (v := .ref (rh a0 11)) C fX6_46 hk0 (if_neg (Int.not_lt.mpr r5)) dX6_out_17 (fun g6 => ?_)
      refine q_iload_n C 1 rfl rfl dX6_out_20 ?_
      obtain ⟨r7, h⟩ := h
      refine q_iald C hk0 rfl (fun _ q => q) r7 dX6_out_21 (fun g8 => ?_)
      have h := h g8
      exact hret (M a0 11 a1) M _ _ dX6_out_22 g8 h
    · have h := h.2 b4
      refine q_lv (lv' := []) [] rfl ?_
      exact t12  M h
set_option maxHeartbeats 4000000 in
set_option maxRecDepth 100000 in
theorem mX6_ply (l : Launch) (D : va_G) (cy : Nat → ClassId) (kd : gKd) (ln : gLn) (rh : gRh) (post : Int → gM → Prop) (a0 : Int) (a1 : Int) (a2 : Int) (M : gM) (hk0 : kd a0 = 6) (h : wX6_ply kd ln post a0 a1 a2 M) : gMI l D cy yX6_ply cX6_ply 3 .int 0 0 [.ref (gad a0), .int (gI a1), .int (gI a2)] kd ln rh M post := by
  refine gMI_of (own := RX6) (by decide) rfl (Nat.le_of_ble_eq_true rfl) ?_
  intro p e s m args below meth c A H0 Q C hret
  unfold wX6_ply at h
  refine q_iload_n C 1 rfl rfl dX6_ply_0 ?_
  obtain ⟨r1, h⟩ := h
  refine q_if_lt (tgt := 21) C r1 (by decide) dX6_ply_1 (fun b2 => ?_) (fun b2 => ?_)
  · have h := h.1 b2
    refine q_iconst C dX6_ply_21 ?_
    exact hret (-1) M _ _ dX6_ply_22 (show rng (-1) by decide) h
  · have h := h.2 b2
    refine q_iload_n C 1 rfl rfl dX6_ply_4 ?_
    refine q_aload_n C 0 rfl rfl dX6_ply_5 ?_
    refine q_get (v := .int (gI (M a0 8 (-1)))) C fX6_56 hk0 rfl dX6_ply_6 (fun g3 => ?_)
    have h := h g3
    refine q_icmp_ge (tgt := 21) C r1 g3 (by decide) dX6_ply_9 (fun b4 => ?_) (fun b4 => ?_)
    · have h := h.1 b4
      refine q_iconst C dX6_ply_21 ?_
      exact hret (-1) M _ _ dX6_ply_22 (show rng (-1) by decide) h
    · have h := h.2 b4
      refine q_iload_n C 2 rfl rfl dX6_ply_12 ?_
      obtain ⟨r5, h⟩ := h
      refine q_if_lt (tgt := 21) C r5 (by decide) dX6_ply_13 (fun b6 => ?_) (fun b6 => ?_)
      · have h := h.1 b6
        refine q_iconst C dX6_ply_21 ?_
        exact hret (-1) M _ _ dX6_ply_22 (show rng (-1) by decide) h
      · have h := h.2 b6
        refine q_iload_n C 2 rfl rfl dX6_ply_16 ?_
        refine q_iconst C dX6_ply_17 ?_
        refine q_icmp_lt (tgt := 23) C r5 (show rng 5 by decide) (by decide) dX6_ply_18 (fun b7 => ?_) (fun b7 => ?_)
        · have h := h.1 b7
          refine q_aload_n C 0 rfl rfl dX6_ply_23 ?_
          obtain ⟨r8, h⟩ := h
          refine q_get (v := .ref (rh a0 7)) C fX6_39 hk0 (if_neg (Int.not_lt.mpr r8)) dX6_ply_24 (fun g9 => ?_)
          refine q_iload_n C 1 rfl rfl dX6_ply_27 ?_
          refine q_iconst C dX6_ply_28 ?_
          refine q_imul C dX6_ply_29 ?_
          refine q_iload_n C 2 rfl rfl dX6_ply_30 ?_
          refine q_iadd C dX6_ply_31 ?_
          obtain ⟨r10, h⟩ := h
          refine q_iald C hk0 rfl (fun _ q => q) r10 dX6_ply_32 (fun g11 => ?_)
          have h := h g11
          exact hret (M a0 7 ((a1 * 5) + a2)) M _ _ dX6_ply_33 g11 h
        · have h := h.2 b7
          refine q_iconst C dX6_ply_21 ?_
          exact hret (-1) M _ _ dX6_ply_22 (show rng (-1) by decide) h
set_option maxHeartbeats 4000000 in
set_option maxRecDepth 100000 in
theorem mX6_position (l : Launch) (D : va_G) (cy : Nat → ClassId) (kd : gKd) (ln : gLn) (rh : gRh) (post : Int → gM → Prop) (px : gM → Prop) (a0 : Int) (a1 : Int) (a2 : Int) (a3 : Int) (M : gM) (hst : l.stackTraces = false) (hk0 : kd a0 = 6) (h : wX6_position kd ln post px a0 a1 a2 a3 M) : gTI l D cy yX6_position cX6_position 6 .int 7 118 [.ref (gad a0), .int (gI a1), .int (gI a2), .int (gI a3)] kd ln rh M post px := by
  refine gTI_of (own := RX6) (by decide) rfl (Nat.le_of_ble_eq_true rfl) hst rfl ?_
  intro p e s m args below meth c A H0 Q C hret hthr hexc
  unfold wX6_position at h
  refine q_aload_n C 0 rfl rfl dX6_position_0 ?_
  refine q_iload_n C 1 rfl rfl dX6_position_1 ?_
  refine q_callTR (As := [.int (gI a1)]) (st := []) C vX6_138 kX6_demandMade ⟨by decide, by decide⟩ ⟨by decide, by decide⟩ rfl hk0 ⟨_, _, rfl⟩ (by decide) rfl (Nat.le_of_ble_eq_true rfl) (mX6_demandMade l D cy kd ln rh _ _ a0 a1 M hst hk0 h) dX6_position_2 (fun M9 h => hexc M9 _ _ _ _ _ (by decide) (by decide) h) (fun c2 M1 h => ?_)
  refine q_astore (lv' := [(4, .ref (gad c2)), (0, .ref (gad a0)), (1, .int (gI a1)), (2, .int (gI a2)), (3, .int (gI a3))]) C (by decide) rfl dX6_position_5 ?_
  refine q_aload C 0 rfl dX6_position_7 ?_
  refine q_iload_n C 3 rfl rfl dX6_position_9 ?_
  obtain ⟨r4, h⟩ := h
  refine q_callVI (As := [.int (gI a2)]) (st := []) C vX6_141 kX5_cellNumbered ⟨by decide, by decide⟩ ⟨by decide, by decide⟩ rfl r4 ⟨_, _, rfl⟩ (by decide) rfl (Nat.le_of_ble_eq_true rfl) (mX5_cellNumbered l D cy kd ln rh _ c2 a2 M1 r4 h) dX6_position_10 (fun c6 M5 g7 h => ?_)
  have h := h g7
  refine q_istore (lv' := [(5, .int (gI c6)), (4, .ref (gad c2)), (0, .ref (gad a0)), (1, .int (gI a1)), (2, .int (gI a2)), (3, .int (gI a3))]) C (by decide) rfl dX6_position_13 ?_
  refine q_iload C 0 rfl dX6_position_15 ?_
  refine q_iconst C dX6_position_17 ?_
  refine q_icmp_ne (tgt := 25) C g7 (show rng (-1) by decide) (by decide) dX6_position_18 (fun b8 => ?_) (fun b8 => ?_)
  · have h := h.1 b8
    refine q_aload C 1 rfl dX6_position_25 ?_
    refine q_iload C 0 rfl dX6_position_27 ?_
    refine q_iload_n C 5 rfl rfl dX6_position_29 ?_
    refine q_callVI (As := [.int (gI c6), .int (gI a3)]) (st := []) C vX6_144 kX5_tell ⟨by decide, by decide⟩ ⟨by decide, by decide⟩ rfl r4 ⟨_, _, rfl⟩ (by decide) rfl (Nat.le_of_ble_eq_true rfl) (mX5_tell l D cy kd ln rh _ c2 c6 a3 M5 r4 h) dX6_position_30 (fun c10 M9 g11 h => ?_)
    have h := h g11
    exact hret c10 M9 _ _ 1 6 (by decide) (by decide) dX6_position_33 g11 h
  · have h := h.2 b8
    refine q_iconst C dX6_position_21 ?_
    refine q_goto (tgt := 33) C (by decide) dX6_position_22 ?_
    exact hret (-1) M5 _ _ 1 6 (by decide) (by decide) dX6_position_33 (show rng (-1) by decide) h
set_option maxHeartbeats 4000000 in
set_option maxRecDepth 100000 in
theorem mX6_read (l : Launch) (D : va_G) (cy : Nat → ClassId) (kd : gKd) (ln : gLn) (rh : gRh) (post : Int → gM → Prop) (a0 : Int) (a1 : Int) (M : gM) (hk0 : kd a0 = 6) (h : wX6_read kd ln post a0 a1 M) : gMI l D cy yX6_read cX6_read 2 .int 4 99 [.ref (gad a0), .int (gI a1)] kd ln rh M post := by
  refine gMI_of (own := RX6) (by decide) rfl (Nat.le_of_ble_eq_true rfl) ?_
  intro p e s m args below meth c A H0 Q C hret
  unfold wX6_read at h
  refine q_iload_n C 1 rfl rfl dX6_read_0 ?_
  obtain ⟨r1, h⟩ := h
  refine q_if_lt (tgt := 12) C r1 (by decide) dX6_read_1 (fun b2 => ?_) (fun b2 => ?_)
  · have h := h.1 b2
    refine q_bipush C (by decide) dX6_read_12 ?_
    exact hret (-2) M _ _ dX6_read_14 (show rng (-2) by decide) h
  · have h := h.2 b2
    refine q_iload_n C 1 rfl rfl dX6_read_4 ?_
    refine q_aload_n C 0 rfl rfl dX6_read_5 ?_
    refine q_get (v := .int (gI (M a0 10 (-1)))) C fX6_167 hk0 rfl dX6_read_6 (fun g3 => ?_)
    have h := h g3
    refine q_icmp_le (tgt := 15) C r1 g3 (by decide) dX6_read_9 (fun b4 => ?_) (fun b4 => ?_)
    · have h := h.1 b4
      refine q_aload_n C 0 rfl rfl dX6_read_15 ?_
      refine q_iconst C dX6_read_16 ?_
      refine q_put (x := 0) (ty := .int) C fX6_167 hk0 (fun _ _ _ q => by cases q; rfl) (congrArg (fun z => Value.int (gI z)) gu_s) rfl rfl (show rng 0 by decide) dX6_read_17 ?_
      refine q_iload_n C 1 rfl rfl dX6_read_20 ?_
      refine q_bipush C (by decide) dX6_read_21 ?_
      refine q_icmp_ne (tgt := 33) C r1 (show rng 13 by decide) (by decide) dX6_read_23 (fun b5 => ?_) (fun b5 => ?_)
      · have h := h.1 b5
        refine q_iconst C dX6_read_33 ?_
        exact hret (-1) (gu M a0 10 (-1) 0) _ _ dX6_read_34 (show rng (-1) by decide) h
      · have h := h.2 b5
        refine q_aload_n C 0 rfl rfl dX6_read_26 ?_
        refine q_callVI (As := []) (st := []) C vX6_173 kX6_keyOfText ⟨by decide, by decide⟩ ⟨by decide, by decide⟩ rfl hk0 ⟨_, _, rfl⟩ (by decide) rfl (Nat.le_of_ble_eq_true rfl) (mX6_keyOfText l D cy kd ln rh _ a0 (gu M a0 10 (-1) 0) hk0 h) dX6_read_27 (fun c7 M6 g8 h => ?_)
        have h := h g8
        refine q_goto (tgt := 34) C (by decide) dX6_read_30 ?_
        exact hret c7 M6 _ _ dX6_read_34 g8 h
    · have h := h.2 b4
      refine q_bipush C (by decide) dX6_read_12 ?_
      exact hret (-2) M _ _ dX6_read_14 (show rng (-2) by decide) h
set_option maxHeartbeats 4000000 in
set_option maxRecDepth 100000 in
theorem mX6_showSquare (l : Launch) (D : va_G) (cy : Nat → ClassId) (kd : gKd) (ln : gLn) (rh : gRh) (post : gM → Prop) (a0 : Int) (a1 : Int) (a2 : Int) (a3 : Int) (M : gM) (hk0 : kd a0 = 6) (h : wX6_showSquare kd ln post a0 a1 a2 a3 M) : gMV l D cy yX6_showSquare cX6_showSquare 4 0 0 [.ref (gad a0), .int (gI a1), .int (gI a2), .int (gI a3)] kd ln rh M post := by
  refine gMV_of (own := RX6) (by decide) rfl (Nat.le_of_ble_eq_true rfl) ?_
  intro p e s m args below meth c A H0 Q C hret
  unfold wX6_showSquare at h
  refine q_aload_n C 0 rfl rfl dX6_showSquare_0 ?_
  obtain ⟨r1, h⟩ := h
  refine q_get (v := .ref (rh a0 11)) C fX6_46 hk0 (if_neg (Int.not_lt.mpr r1)) dX6_showSquare_1 (fun g2 => ?_)
  refine q_iload_n C 1 rfl rfl dX6_showSquare_4 ?_
  refine q_iload_n C 2 rfl rfl dX6_showSquare_5 ?_
  obtain ⟨r3, h⟩ := h
  obtain ⟨r4, h⟩ := h
  refine q_iast C hk0 rfl r4 r3 dX6_showSquare_6 ?_
  refine q_aload_n C 0 rfl rfl dX6_showSquare_7 ?_
  refine q_get (v := .ref (rh a0 11)) C fX6_46 hk0 (if_neg (Int.not_lt.mpr r1)) dX6_showSquare_8 (fun g5 => ?_)
  refine q_iload_n C 1 rfl rfl dX6_showSquare_11 ?_
  refine q_iconst C dX6_showSquare_12 ?_
  refine q_iadd C dX6_showSquare_13 ?_
  refine q_bipush C (by decide) dX6_showSquare_14 ?_
  refine q_aload_n C 0 rfl rfl dX6_showSquare_16 ?_
  refine q_get (v := gR ((gu M a0 11 a1 a2) a0 1 (-1))) C fX6_52 hk0 rfl dX6_showSquare_17 (fun g6 => ?_)
  obtain ⟨r7, h⟩ := h
  refine q_nn r7 (by decide) ?_
  obtain ⟨r8, h⟩ := h
  refine q_get (v := .ref (rh ((gu M a0 11 a1 a2) a0 1 (-1)) 3)) C fX6_254 r7 (if_neg (Int.not_lt.mpr r8)) dX6_showSquare_20 (fun g9 => ?_)
  refine q_iload_n C 3 rfl rfl dX6_showSquare_23 ?_
  obtain ⟨r10, h⟩ := h
  refine q_iald C r7 rfl (fun _ q => q) r10 dX6_showSquare_24 (fun g11 => ?_)
  have h := h g11
  refine q_iadd C dX6_showSquare_25 ?_
  obtain ⟨r12, h⟩ := h
  obtain ⟨r13, h⟩ := h
  refine q_iast C hk0 rfl r13 r12 dX6_showSquare_26 ?_
  refine q_aload_n C 0 rfl rfl dX6_showSquare_27 ?_
  refine q_get (v := .ref (rh a0 11)) C fX6_46 hk0 (if_neg (Int.not_lt.mpr r1)) dX6_showSquare_28 (fun g14 => ?_)
  refine q_iload_n C 1 rfl rfl dX6_showSquare_31 ?_
  refine q_iconst C dX6_showSquare_32 ?_
  refine q_iadd C dX6_showSquare_33 ?_
  refine q_bipush C (by decide) dX6_showSquare_34 ?_
  refine q_aload_n C 0 rfl rfl dX6_showSquare_36 ?_
  refine q_get (v := gR ((gu (gu M a0 11 a1 a2) a0 11 (a1 + 1) (97 + ((gu M a0 11 a1 a2) ((gu M a0 11 a1 a2) a0 1 (-1)) 3 a3))) a0 1 (-1))) C fX6_52 hk0 rfl dX6_showSquare_37 (fun g15 => ?_)
  obtain ⟨r16, h⟩ := h
  refine q_nn r16 (by decide) ?_
  obtain ⟨r17, h⟩ := h
  refine q_get (v := .ref (rh ((gu (gu M a0 11 a1 a2) a0 11 (a1 + 1) (97 + ((gu M a0 11 a1 a2) ((gu M a0 11 a1 a2) a0 1 (-1)) 3 a3))) a0 1 (-1)) 2)) C fX6_257 r16 (if_neg (Int.not_lt.mpr r17)) dX6_showSquare_40 (fun g18 => ?_)
  refine q_iload_n C 3 rfl rfl dX6_showSquare_43 ?_
  obtain ⟨r19, h⟩ := h
  refine q_iald C r16 rfl (fun _ q => q) r19 dX6_showSquare_44 (fun g20 => ?_)
  have h := h g20
  refine q_iadd C dX6_showSquare_45 ?_
  obtain ⟨r21, h⟩ := h
  obtain ⟨r22, h⟩ := h
  refine q_iast C hk0 rfl r22 r21 dX6_showSquare_46 ?_
  refine q_aload_n C 0 rfl rfl dX6_showSquare_47 ?_
  refine q_get (v := .ref (rh a0 11)) C fX6_46 hk0 (if_neg (Int.not_lt.mpr r1)) dX6_showSquare_48 (fun g23 => ?_)
  refine q_iload_n C 1 rfl rfl dX6_showSquare_51 ?_
  refine q_iconst C dX6_showSquare_52 ?_
  refine q_iadd C dX6_showSquare_53 ?_
  refine q_bipush C (by decide) dX6_showSquare_54 ?_
  obtain ⟨r24, h⟩ := h
  refine q_iast C hk0 rfl (show rng 32 by decide) r24 dX6_showSquare_56 ?_
  exact hret (gu (gu (gu (gu M a0 11 a1 a2) a0 11 (a1 + 1) (97 + ((gu M a0 11 a1 a2) ((gu M a0 11 a1 a2) a0 1 (-1)) 3 a3))) a0 11 (a1 + 2) (49 + ((gu (gu M a0 11 a1 a2) a0 11 (a1 + 1) (97 + ((gu M a0 11 a1 a2) ((gu M a0 11 a1 a2) a0 1 (-1)) 3 a3))) ((gu (gu M a0 11 a1 a2) a0 11 (a1 + 1) (97 + ((gu M a0 11 a1 a2) ((gu M a0 11 a1 a2) a0 1 (-1)) 3 a3))) a0 1 (-1)) 2 a3))) a0 11 (a1 + 3) 32) _ _ dX6_showSquare_57 h
set_option maxHeartbeats 4000000 in
set_option maxRecDepth 100000 in
theorem mX6_show (l : Launch) (D : va_G) (cy : Nat → ClassId) (kd : gKd) (ln : gLn) (rh : gRh) (post : Int → gM → Prop) (a0 : Int) (a1 : Int) (a2 : Int) (a3 : Int) (a4 : Int) (a5 : Int) (M : gM) (hk0 : kd a0 = 6) (h : wX6_show kd ln post a0 a1 a2 a3 a4 a5 M) : gMI l D cy yX6_show cX6_show 6 .int 3 72 [.ref (gad a0), .int (gI a1), .int (gI a2), .int (gI a3), .int (gI a4), .int (gI a5)] kd ln rh M post := by
  refine gMI_of (own := RX6) (by decide) rfl (Nat.le_of_ble_eq_true rfl) ?_
  intro p e s m args below meth c A H0 Q C hret
  unfold wX6_show at h
  refine q_aload_n C 0 rfl rfl dX6_show_0 ?_
  refine q_get (v := gR (M a0 1 (-1))) C fX6_52 hk0 rfl dX6_show_1 (fun g1 => ?_)
  obtain ⟨r2, h⟩ := h
  refine q_nn r2 (by decide) ?_
  refine q_iload_n C 1 rfl rfl dX6_show_4 ?_
  refine q_iload_n C 2 rfl rfl dX6_show_5 ?_
  refine q_iload_n C 3 rfl rfl dX6_show_6 ?_
  refine q_iload C 4 rfl dX6_show_7 ?_
  refine q_iload C 5 rfl dX6_show_9 ?_
  refine q_callVI (As := [.int (gI a1), .int (gI a2), .int (gI a3), .int (gI a4), .int (gI a5)]) (st := []) C vX6_70 kX0_allows ⟨by decide, by decide⟩ ⟨by decide, by decide⟩ rfl r2 ⟨_, _, rfl⟩ (by decide) rfl (Nat.le_of_ble_eq_true rfl) (mX0_allows l D cy kd ln rh _ (M a0 1 (-1)) a1 a2 a3 a4 a5 M r2 h) dX6_show_11 (fun c4 M3 g5 h => ?_)
  have h := h g5
  refine q_if_ne (tgt := 19) C g5 (by decide) dX6_show_14 (fun b6 => ?_) (fun b6 => ?_)
  · have h := h.1 b6
    refine q_aload_n C 0 rfl rfl dX6_show_19 ?_
    refine q_iconst C dX6_show_20 ?_
    refine q_bipush C (by decide) dX6_show_21 ?_
    refine q_iload_n C 2 rfl rfl dX6_show_23 ?_
    refine q_callVV (As := [.int (gI 0), .int (gI 75), .int (gI a2)]) (st := []) C vX6_176 kX6_showSquare ⟨by decide, by decide⟩ ⟨by decide, by decide⟩ rfl hk0 ⟨_, _, rfl⟩ (by decide) rfl (Nat.le_of_ble_eq_true rfl) (mX6_showSquare l D cy kd ln rh _ a0 0 75 a2 M3 hk0 h) dX6_show_24 (fun M7 h => ?_)
    refine q_aload_n C 0 rfl rfl dX6_show_27 ?_
    refine q_iconst C dX6_show_28 ?_
    refine q_gets (t := 0) C (Or.inl ⟨rfl, rfl⟩) zX6_180 dX6_show_29 ?_
    refine q_iload_n C 1 rfl rfl dX6_show_32 ?_
    obtain ⟨r10, h⟩ := h
    refine q_cald C (by decide) r10 dX6_show_33 (fun g11 => ?_)
    have h := h g11
    refine q_iload C 4 rfl dX6_show_34 ?_
    refine q_callVV (As := [.int (gI 4), .int (gI (gle 0 a1.toNat)), .int (gI a4)]) (st := []) C vX6_176 kX6_showSquare ⟨by decide, by decide⟩ ⟨by decide, by decide⟩ rfl hk0 ⟨_, _, rfl⟩ (by decide) rfl (Nat.le_of_ble_eq_true rfl) (mX6_showSquare l D cy kd ln rh _ a0 4 (gle 0 a1.toNat) a4 M7 hk0 h) dX6_show_36 (fun M12 h => ?_)
    refine q_aload_n C 0 rfl rfl dX6_show_39 ?_
    refine q_bipush C (by decide) dX6_show_40 ?_
    refine q_bipush C (by decide) dX6_show_42 ?_
    refine q_iload_n C 3 rfl rfl dX6_show_44 ?_
    refine q_callVV (As := [.int (gI 8), .int (gI 107), .int (gI a3)]) (st := []) C vX6_176 kX6_showSquare ⟨by decide, by decide⟩ ⟨by decide, by decide⟩ rfl hk0 ⟨_, _, rfl⟩ (by decide) rfl (Nat.le_of_ble_eq_true rfl) (mX6_showSquare l D cy kd ln rh _ a0 8 107 a3 M12 hk0 h) dX6_show_45 (fun M15 h => ?_)
    refine q_aload_n C 0 rfl rfl dX6_show_48 ?_
    obtain ⟨r18, h⟩ := h
    refine q_get (v := .ref (rh a0 11)) C fX6_46 hk0 (if_neg (Int.not_lt.mpr r18)) dX6_show_49 (fun g19 => ?_)
    refine q_bipush C (by decide) dX6_show_52 ?_
    refine q_gets (t := 1) C (Or.inr ⟨rfl, rfl⟩) zX6_184 dX6_show_54 ?_
    refine q_iload C 5 rfl dX6_show_57 ?_
    obtain ⟨r20, h⟩ := h
    refine q_cald C (by decide) r20 dX6_show_59 (fun g21 => ?_)
    have h := h g21
    obtain ⟨r22, h⟩ := h
    refine q_iast C hk0 rfl g21 r22 dX6_show_60 ?_
    refine q_aload_n C 0 rfl rfl dX6_show_61 ?_
    refine q_bipush C (by decide) dX6_show_62 ?_
    refine q_put (x := 13) (ty := .int) C fX6_187 hk0 (fun _ _ _ q => by cases q; rfl) (congrArg (fun z => Value.int (gI z)) gu_s) rfl rfl (show rng 13 by decide) dX6_show_64 ?_
    refine q_aload_n C 0 rfl rfl dX6_show_67 ?_
    refine q_get (v := .int (gI ((gu (gu M15 a0 11 12 (gle 1 a5.toNat)) a0 12 (-1) 13) a0 12 (-1)))) C fX6_187 hk0 rfl dX6_show_68 (fun g23 => ?_)
    have h := h g23
    exact hret ((gu (gu M15 a0 11 12 (gle 1 a5.toNat)) a0 12 (-1) 13) a0 12 (-1)) (gu (gu M15 a0 11 12 (gle 1 a5.toNat)) a0 12 (-1) 13) _ _ dX6_show_71 g23 h
  · have h := h.2 b6
    refine q_iconst C dX6_show_17 ?_
    exact hret (-1) M3 _ _ dX6_show_18 (show rng (-1) by decide) h
