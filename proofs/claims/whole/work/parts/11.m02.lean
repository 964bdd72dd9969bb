set_option maxHeartbeats 4000000 in
set_option maxRecDepth 100000 in
theorem mX3_takeKingBack (l : Launch) (D : va_G) (cy : Nat → ClassId) (kd : gKd) (ln : gLn) (rh : gRh) (post : gM → Prop) (a0 : Int) (a1 : Int) (a2 : Int) (a3 : Int) (a4 : Int) (M : gM) (hk0 : kd a0 = 3) (h : wX3_takeKingBack kd ln post a0 a1 a2 a3 a4 M) : gMV l D cy yX3_takeKingBack cX3_takeKingBack 7 2 49 [.ref (gad a0), .int (gI a1), .int (gI a2), .int (gI a3), .int (gI a4)] kd ln rh M post := by
  refine gMV_of (own := RX3) (by decide) rfl (Nat.le_of_ble_eq_true rfl) ?_
  intro p e s m args below meth c A H0 Q C hret
  have t12 : ∀ (n : Nat) (x5 : BitVec 64) (M : gM), wX3_takeKingBack_12 kd ln post a0 a1 a2 a3 a4 n x5 M → gW p l e (gRm 2 49) s m args below meth c D cy A H0 Q 7 kd ln rh 0 0 M 12 [(0, .ref (gad a0)), (2, .int (gI a2)), (3, .int (gI a3)), (4, .int (gI a4)), (5, .long (gL x5))] [] := by
    intro n
    induction n with
    | zero => intro x5 M h; exact absurd h (by simp [wX3_takeKingBack_12])
    | succ n ih =>
      intro x5 M h
      have hk12_ := ih
      rw [wX3_takeKingBack_12] at h
      refine q_lload C 4 rfl dX3_takeKingBack_12 ?_
      refine q_lconst (b := 0) C rfl dX3_takeKingBack_14 ?_
      refine q_lcmp C dX3_takeKingBack_15 ?_
      refine q_if_eq (tgt := 52) C (rng_of _) (by decide) dX3_takeKingBack_16 (fun b6 => ?_) (fun b6 => ?_)
      · have h := h.1 b6
        exact hret M _ _ dX3_takeKingBack_52 h
      · have h := h.2 b6
        refine q_aload_n C 0 rfl rfl dX3_takeKingBack_19 ?_
        refine q_aload_n C 0 rfl rfl dX3_takeKingBack_20 ?_
        refine q_get (v := gR (M a0 2 (-1))) C fX3_29 hk0 rfl dX3_takeKingBack_21 (fun g7 => ?_)
        obtain ⟨r8, h⟩ := h
        refine q_nn r8 (by decide) ?_
        refine q_lload C 4 rfl dX3_takeKingBack_24 ?_
        refine q_callNI (As := [.long (gL x5)]) (st := [.ref (gad (M a0 2 (-1))), .ref (gad a0)]) C vX3_160 kX6_lowest ⟨by decide, by decide⟩ ⟨by decide, by decide⟩ rfl rfl (Nat.le_of_ble_eq_true rfl) (mX6_lowest l D cy kd ln rh _ x5 M  h) dX3_takeKingBack_26 (fun c10 M9 g11 h => ?_)
        have h := h g11
        refine q_iload_n C 1 rfl rfl dX3_takeKingBack_29 ?_
        refine q_iload_n C 2 rfl rfl dX3_takeKingBack_30 ?_
        refine q_iconst C dX3_takeKingBack_31 ?_
        refine q_callVI (As := [.int (gI c10), .int (gI a2), .int (gI a3), .int (gI 0)]) (st := [.ref (gad a0)]) C vX3_164 kX2_cellOf ⟨by decide, by decide⟩ ⟨by decide, by decide⟩ rfl r8 ⟨_, _, rfl⟩ (by decide) rfl (Nat.le_of_ble_eq_true rfl) (mX2_cellOf l D cy kd ln rh _ (M a0 2 (-1)) c10 a2 a3 0 M9 r8 h) dX3_takeKingBack_32 (fun c13 M12 g14 h => ?_)
        have h := h g14
        refine q_iload C 3 rfl dX3_takeKingBack_35 ?_
        refine q_callVV (As := [.int (gI c13), .int (gI a4)]) (st := []) C vX3_90 kX3_settle ⟨by decide, by decide⟩ ⟨by decide, by decide⟩ rfl hk0 ⟨_, _, rfl⟩ (by decide) rfl (Nat.le_of_ble_eq_true rfl) (mX3_settle l D cy kd ln rh _ a0 c13 a4 M12 hk0 h) dX3_takeKingBack_37 (fun M15 h => ?_)
        refine q_lload C 4 rfl dX3_takeKingBack_40 ?_
        refine q_lload C 4 rfl dX3_takeKingBack_42 ?_
        refine q_lconst (b := 1) C rfl dX3_takeKingBack_44 ?_
        refine q_lsub C dX3_takeKingBack_45 ?_
        refine q_land C dX3_takeKingBack_46 ?_
        refine q_topl (fun v18 ev18 => ?_)
        have h := h v18 ev18
        refine q_lstore (lv' := [(5, .long (gL v18)), (0, .ref (gad a0)), (2, .int (gI a2)), (3, .int (gI a3)), (4, .int (gI a4))]) C (by decide) rfl dX3_takeKingBack_47 ?_
        refine q_goto (tgt := 12) C (by decide) dX3_takeKingBack_49 ?_
        refine q_lv (lv' := [(0, .ref (gad a0)), (2, .int (gI a2)), (3, .int (gI a3)), (4, .int (gI a4)), (5, .long (gL v18))]) [1, 2, 3, 4, 0] rfl ?_
        exact hk12_ v18 M15 h
  unfold wX3_takeKingBack at h
  refine q_aload_n C 0 rfl rfl dX3_takeKingBack_0 ?_
  refine q_get (v := gR (M a0 0 (-1))) C fX3_15 hk0 rfl dX3_takeKingBack_1 (fun g1 => ?_)
  obtain ⟨r2, h⟩ := h
  refine q_nn r2 (by decide) ?_
  refine q_iload_n C 1 rfl rfl dX3_takeKingBack_4 ?_
  refine q_iload_n C 2 rfl rfl dX3_takeKingBack_5 ?_
  refine q_iload_n C 3 rfl rfl dX3_takeKingBack_6 ?_
  refine q_callVL (As := [.int (gI a1), .int (gI a2), .int (gI a3)]) (st := []) C vX3_156 kX0_whiteTargets ⟨by decide, by decide⟩ ⟨by decide, by decide⟩ rfl r2 ⟨_, _, rfl⟩ (by decide) rfl (Nat.le_of_ble_eq_true rfl) (mX0_whiteTargets l D cy kd ln rh _ (M a0 0 (-1)) a1 a2 a3 M r2 h) dX3_takeKingBack_7 (fun c4 M3 h => ?_)
  refine q_lstore (lv' := [(5, .long (gL c4)), (0, .ref (gad a0)), (1, .int (gI a1)), (2, .int (gI a2)), (3, .int (gI a3)), (4, .int (gI a4))]) C (by decide) rfl dX3_takeKingBack_10 ?_
  refine q_lv (lv' := [(0, .ref (gad a0)), (2, .int (gI a2)), (3, .int (gI a3)), (4, .int (gI a4)), (5, .long (gL c4))]) [1, 3, 4, 5, 0] rfl ?_
  obtain ⟨j12, h⟩ := h
  exact t12  j12 c4 M3 h
set_option maxHeartbeats 4000000 in
set_option maxRecDepth 100000 in
theorem mX3_takeManBack (l : Launch) (D : va_G) (cy : Nat → ClassId) (kd : gKd) (ln : gLn) (rh : gRh) (post : gM → Prop) (a0 : Int) (a1 : Int) (a2 : Int) (a3 : Int) (a4 : Int) (M : gM) (hk0 : kd a0 = 3) (h : wX3_takeManBack kd ln post a0 a1 a2 a3 a4 M) : gMV l D cy yX3_takeManBack cX3_takeManBack 9 2 49 [.ref (gad a0), .int (gI a1), .int (gI a2), .int (gI a3), .int (gI a4)] kd ln rh M post := by
  refine gMV_of (own := RX3) (by decide) rfl (Nat.le_of_ble_eq_true rfl) ?_
  intro p e s m args below meth c A H0 Q C hret
  have t41 : ∀ (n : Nat) (x7 : BitVec 64) (M : gM), wX3_takeManBack_41 kd ln post a0 a1 a2 a3 a4 n x7 M → gW p l e (gRm 2 49) s m args below meth c D cy A H0 Q 9 kd ln rh 0 0 M 41 [(0, .ref (gad a0)), (1, .int (gI a1)), (2, .int (gI a2)), (4, .int (gI a4)), (7, .long (gL x7))] [] := by
    intro n
    induction n with
    | zero => intro x7 M h; exact absurd h (by simp [wX3_takeManBack_41])
    | succ n ih =>
      intro x7 M h
      have hk41_ := ih
      rw [wX3_takeManBack_41] at h
      refine q_lload C 4 rfl dX3_takeManBack_41 ?_
      refine q_lconst (b := 0) C rfl dX3_takeManBack_43 ?_
      refine q_lcmp C dX3_takeManBack_44 ?_
      refine q_if_eq (tgt := 81) C (rng_of _) (by decide) dX3_takeManBack_45 (fun b14 => ?_) (fun b14 => ?_)
      · have h := h.1 b14
        exact hret M _ _ dX3_takeManBack_81 h
      · have h := h.2 b14
        refine q_aload_n C 0 rfl rfl dX3_takeManBack_48 ?_
        refine q_aload_n C 0 rfl rfl dX3_takeManBack_49 ?_
        refine q_get (v := gR (M a0 2 (-1))) C fX3_29 hk0 rfl dX3_takeManBack_50 (fun g15 => ?_)
        obtain ⟨r16, h⟩ := h
        refine q_nn r16 (by decide) ?_
        refine q_iload_n C 1 rfl rfl dX3_takeManBack_53 ?_
        refine q_iload_n C 2 rfl rfl dX3_takeManBack_54 ?_
        refine q_lload C 4 rfl dX3_takeManBack_55 ?_
        refine q_callNI (As := [.long (gL x7)]) (st := [.int (gI a2), .int (gI a1), .ref (gad (M a0 2 (-1))), .ref (gad a0)]) C vX3_160 kX6_lowest ⟨by decide, by decide⟩ ⟨by decide, by decide⟩ rfl rfl (Nat.le_of_ble_eq_true rfl) (mX6_lowest l D cy kd ln rh _ x7 M  h) dX3_takeManBack_57 (fun c18 M17 g19 h => ?_)
        have h := h g19
        refine q_iconst C dX3_takeManBack_60 ?_
        refine q_callVI (As := [.int (gI a1), .int (gI a2), .int (gI c18), .int (gI 0)]) (st := [.ref (gad a0)]) C vX3_164 kX2_cellOf ⟨by decide, by decide⟩ ⟨by decide, by decide⟩ rfl r16 ⟨_, _, rfl⟩ (by decide) rfl (Nat.le_of_ble_eq_true rfl) (mX2_cellOf l D cy kd ln rh _ (M a0 2 (-1)) a1 a2 c18 0 M17 r16 h) dX3_takeManBack_61 (fun c21 M20 g22 h => ?_)
        have h := h g22
        refine q_iload C 3 rfl dX3_takeManBack_64 ?_
        refine q_callVV (As := [.int (gI c21), .int (gI a4)]) (st := []) C vX3_90 kX3_settle ⟨by decide, by decide⟩ ⟨by decide, by decide⟩ rfl hk0 ⟨_, _, rfl⟩ (by decide) rfl (Nat.le_of_ble_eq_true rfl) (mX3_settle l D cy kd ln rh _ a0 c21 a4 M20 hk0 h) dX3_takeManBack_66 (fun M23 h => ?_)
        refine q_lload C 4 rfl dX3_takeManBack_69 ?_
        refine q_lload C 4 rfl dX3_takeManBack_71 ?_
        refine q_lconst (b := 1) C rfl dX3_takeManBack_73 ?_
        refine q_lsub C dX3_takeManBack_74 ?_
        refine q_land C dX3_takeManBack_75 ?_
        refine q_topl (fun v26 ev26 => ?_)
        have h := h v26 ev26
        refine q_lstore (lv' := [(7, .long (gL v26)), (0, .ref (gad a0)), (1, .int (gI a1)), (2, .int (gI a2)), (4, .int (gI a4))]) C (by decide) rfl dX3_takeManBack_76 ?_
        refine q_goto (tgt := 41) C (by decide) dX3_takeManBack_78 ?_
        refine q_lv (lv' := [(0, .ref (gad a0)), (1, .int (gI a1)), (2, .int (gI a2)), (4, .int (gI a4)), (7, .long (gL v26))]) [1, 2, 3, 4, 0] rfl ?_
        exact hk41_ v26 M23 h
  have t35 : ∀ (y0 : BitVec 64) (M : gM), wX3_takeManBack_35 kd ln post a0 a1 a2 a3 a4 y0 M → gW p l e (gRm 2 49) s m args below meth c D cy A H0 Q 9 kd ln rh 0 0 M 35 [(0, .ref (gad a0)), (1, .int (gI a1)), (2, .int (gI a2)), (4, .int (gI a4))] [.long (gL y0)] := by
    intro  y0 M h
    unfold wX3_takeManBack_35 at h
    refine q_lstore (lv' := [(5, .long (gL y0)), (0, .ref (gad a0)), (1, .int (gI a1)), (2, .int (gI a2)), (4, .int (gI a4))]) C (by decide) rfl dX3_takeManBack_35 ?_
    refine q_lload C 0 rfl dX3_takeManBack_37 ?_
    refine q_lstore (lv' := [(7, .long (gL y0)), (5, .long (gL y0)), (0, .ref (gad a0)), (1, .int (gI a1)), (2, .int (gI a2)), (4, .int (gI a4))]) C (by decide) rfl dX3_takeManBack_39 ?_
    refine q_lv (lv' := [(0, .ref (gad a0)), (1, .int (gI a1)), (2, .int (gI a2)), (4, .int (gI a4)), (7, .long (gL y0))]) [2, 3, 4, 5, 0] rfl ?_
    obtain ⟨j41, h⟩ := h
    exact t41  j41 y0 M h
  unfold wX3_takeManBack at h
  refine q_aload_n C 0 rfl rfl dX3_takeManBack_0 ?_
  refine q_get (v := .int (gI (M a0 4 (-1)))) C fX3_39 hk0 rfl dX3_takeManBack_1 (fun g1 => ?_)
  have h := h g1
  refine q_iconst C dX3_takeManBack_4 ?_
  refine q_icmp_ne (tgt := 21) C g1 (show rng 2 by decide) (by decide) dX3_takeManBack_5 (fun b2 => ?_) (fun b2 => ?_)
  · have h := h.1 b2
    refine q_aload_n C 0 rfl rfl dX3_takeManBack_21 ?_
    refine q_get (v := gR (M a0 0 (-1))) C fX3_15 hk0 rfl dX3_takeManBack_22 (fun g3 => ?_)
    obtain ⟨r4, h⟩ := h
    refine q_nn r4 (by decide) ?_
    refine q_aload_n C 0 rfl rfl dX3_takeManBack_25 ?_
    refine q_get (v := .int (gI (M a0 4 (-1)))) C fX3_39 hk0 rfl dX3_takeManBack_26 (fun g5 => ?_)
    refine q_iload_n C 1 rfl rfl dX3_takeManBack_29 ?_
    refine q_iload_n C 2 rfl rfl dX3_takeManBack_30 ?_
    refine q_iload_n C 3 rfl rfl dX3_takeManBack_31 ?_
    refine q_callVL (As := [.int (gI (M a0 4 (-1))), .int (gI a1), .int (gI a2), .int (gI a3)]) (st := []) C vX3_170 kX0_glides ⟨by decide, by decide⟩ ⟨by decide, by decide⟩ rfl r4 ⟨_, _, rfl⟩ (by decide) rfl (Nat.le_of_ble_eq_true rfl) (mX0_glides l D cy kd ln rh _ (M a0 0 (-1)) (M a0 4 (-1)) a1 a2 a3 M r4 h) dX3_takeManBack_32 (fun c7 M6 h => ?_)
    refine q_lv (lv' := [(0, .ref (gad a0)), (1, .int (gI a1)), (2, .int (gI a2)), (4, .int (gI a4))]) [0, 1, 2, 4] rfl ?_
    exact t35  c7 M6 h
  · have h := h.2 b2
    refine q_aload_n C 0 rfl rfl dX3_takeManBack_8 ?_
    refine q_get (v := gR (M a0 0 (-1))) C fX3_15 hk0 rfl dX3_takeManBack_9 (fun g9 => ?_)
    obtain ⟨r10, h⟩ := h
    refine q_nn r10 (by decide) ?_
    refine q_iload_n C 1 rfl rfl dX3_takeManBack_12 ?_
    refine q_iload_n C 2 rfl rfl dX3_takeManBack_13 ?_
    refine q_iload_n C 3 rfl rfl dX3_takeManBack_14 ?_
    refine q_callVL (As := [.int (gI a1), .int (gI a2), .int (gI a3)]) (st := []) C vX3_167 kX0_pawnSources ⟨by decide, by decide⟩ ⟨by decide, by decide⟩ rfl r10 ⟨_, _, rfl⟩ (by decide) rfl (Nat.le_of_ble_eq_true rfl) (mX0_pawnSources l D cy kd ln rh _ (M a0 0 (-1)) a1 a2 a3 M r10 h) dX3_takeManBack_15 (fun c12 M11 h => ?_)
    refine q_goto (tgt := 35) C (by decide) dX3_takeManBack_18 ?_
    refine q_lv (lv' := [(0, .ref (gad a0)), (1, .int (gI a1)), (2, .int (gI a2)), (4, .int (gI a4))]) [0, 1, 2, 4] rfl ?_
    exact t35  c12 M11 h
set_option maxHeartbeats 4000000 in
set_option maxRecDepth 100000 in
theorem mX3_isLost (l : Launch) (D : va_G) (cy : Nat → ClassId) (kd : gKd) (ln : gLn) (rh : gRh) (post : Int → gM → Prop) (a0 : Int) (a1 : Int) (a2 : Int) (a3 : Int) (M : gM) (hk0 : kd a0 = 3) (h : wX3_isLost kd ln post a0 a1 a2 a3 M) : gMI l D cy yX3_isLost cX3_isLost 9 .boolean 2 49 [.ref (gad a0), .int (gI a1), .int (gI a2), .int (gI a3)] kd ln rh M post := by
  refine gMI_ofZ (own := RX3) (by decide) rfl (Nat.le_of_ble_eq_true rfl) ?_
  intro p e s m args below meth c A H0 Q C hret
  have t31 : ∀ (n : Nat) (x6 : BitVec 64) (M : gM), wX3_isLost_31 kd ln post a0 a1 a2 a3 n x6 M → gW p l e (gRm 2 49) s m args below meth c D cy A H0 Q 9 kd ln rh 0 0 M 31 [(0, .ref (gad a0)), (1, .int (gI a1)), (3, .int (gI a3)), (6, .long (gL x6))] [] := by
    intro n
    induction n with
    | zero => intro x6 M h; exact absurd h (by simp [wX3_isLost_31])
    | succ n ih =>
      intro x6 M h
      have hk31_ := ih
      rw [wX3_isLost_31] at h
      refine q_lload C 3 rfl dX3_isLost_31 ?_
      refine q_lconst (b := 0) C rfl dX3_isLost_33 ?_
      refine q_lcmp C dX3_isLost_34 ?_
      refine q_if_eq (tgt := 85) C (rng_of _) (by decide) dX3_isLost_35 (fun b11 => ?_) (fun b11 => ?_)
      · have h := h.1 b11
        refine q_iconst C dX3_isLost_85 ?_
        exact hret 1 M _ _ dX3_isLost_86 (Or.inr rfl) h
      · have h := h.2 b11
        refine q_aload_n C 0 rfl rfl dX3_isLost_38 ?_
        refine q_get (v := gR (M a0 2 (-1))) C fX3_29 hk0 rfl dX3_isLost_39 (fun g12 => ?_)
        obtain ⟨r13, h⟩ := h
        refine q_nn r13 (by decide) ?_
        refine q_iload_n C 1 rfl rfl dX3_isLost_42 ?_
        refine q_lload C 3 rfl dX3_isLost_43 ?_
        refine q_callNI (As := [.long (gL x6)]) (st := [.int (gI a1), .ref (gad (M a0 2 (-1)))]) C vX3_160 kX6_lowest ⟨by decide, by decide⟩ ⟨by decide, by decide⟩ rfl rfl (Nat.le_of_ble_eq_true rfl) (mX6_lowest l D cy kd ln rh _ x6 M  h) dX3_isLost_45 (fun c15 M14 g16 h => ?_)
        have h := h g16
        refine q_iload_n C 2 rfl rfl dX3_isLost_48 ?_
        refine q_iconst C dX3_isLost_49 ?_
        refine q_callVI (As := [.int (gI a1), .int (gI c15), .int (gI a3), .int (gI 0)]) (st := []) C vX3_164 kX2_cellOf ⟨by decide, by decide⟩ ⟨by decide, by decide⟩ rfl r13 ⟨_, _, rfl⟩ (by decide) rfl (Nat.le_of_ble_eq_true rfl) (mX2_cellOf l D cy kd ln rh _ (M a0 2 (-1)) a1 c15 a3 0 M14 r13 h) dX3_isLost_50 (fun c18 M17 g19 h => ?_)
        have h := h g19
        refine q_istore (lv' := [(8, .int (gI c18)), (0, .ref (gad a0)), (1, .int (gI a1)), (3, .int (gI a3)), (6, .long (gL x6))]) C (by decide) rfl dX3_isLost_53 ?_
        refine q_iload C 0 rfl dX3_isLost_55 ?_
        refine q_iconst C dX3_isLost_57 ?_
        refine q_icmp_eq (tgt := 71) C g19 (show rng (-1) by decide) (by decide) dX3_isLost_58 (fun b20 => ?_) (fun b20 => ?_)
        · have h := h.1 b20
          refine q_iconst C dX3_isLost_71 ?_
          exact hret 0 M17 _ _ dX3_isLost_72 (Or.inl rfl) h
        · have h := h.2 b20
          refine q_aload_n C 1 rfl rfl dX3_isLost_61 ?_
          obtain ⟨r22, h⟩ := h
          obtain ⟨r23, h⟩ := h
          obtain ⟨r24, h⟩ := h
          refine q_get (v := .ref (rh (M17 a0 3 (-1)) 1)) C fX3_34 hk0 (if_neg r22) dX3_isLost_62 (fun g21 => ?_)
          refine q_iload C 0 rfl dX3_isLost_65 ?_
          obtain ⟨r25, h⟩ := h
          refine q_bald C r23 rfl (fun _ q => q) r25 dX3_isLost_67 (fun g26 => ?_)
          have h := h g26
          refine q_if_ge (tgt := 73) C g26 (by decide) dX3_isLost_68 (fun b27 => ?_) (fun b27 => ?_)
          · have h := h.1 b27
            refine q_lload C 4 rfl dX3_isLost_73 ?_
            refine q_lload C 4 rfl dX3_isLost_75 ?_
            refine q_lconst (b := 1) C rfl dX3_isLost_77 ?_
            refine q_lsub C dX3_isLost_78 ?_
            refine q_land C dX3_isLost_79 ?_
            refine q_topl (fun v28 ev28 => ?_)
            have h := h v28 ev28
            refine q_lstore (lv' := [(6, .long (gL v28)), (8, .int (gI c18)), (0, .ref (gad a0)), (1, .int (gI a1)), (3, .int (gI a3))]) C (by decide) rfl dX3_isLost_80 ?_
            refine q_goto (tgt := 31) C (by decide) dX3_isLost_82 ?_
            refine q_lv (lv' := [(0, .ref (gad a0)), (1, .int (gI a1)), (3, .int (gI a3)), (6, .long (gL v28))]) [2, 3, 4, 0] rfl ?_
            exact hk31_ v28 M17 h
          · have h := h.2 b27
            refine q_iconst C dX3_isLost_71 ?_
            exact hret 0 M17 _ _ dX3_isLost_72 (Or.inl rfl) h
  unfold wX3_isLost at h
  refine q_aload_n C 0 rfl rfl dX3_isLost_0 ?_
  refine q_get (v := gR (M a0 0 (-1))) C fX3_15 hk0 rfl dX3_isLost_1 (fun g1 => ?_)
  obtain ⟨r2, h⟩ := h
  refine q_nn r2 (by decide) ?_
  refine q_aload_n C 0 rfl rfl dX3_isLost_4 ?_
  refine q_get (v := .int (gI (M a0 4 (-1)))) C fX3_39 hk0 rfl dX3_isLost_5 (fun g3 => ?_)
  have h := h g3
  refine q_iload_n C 1 rfl rfl dX3_isLost_8 ?_
  refine q_iload_n C 2 rfl rfl dX3_isLost_9 ?_
  refine q_iload_n C 3 rfl rfl dX3_isLost_10 ?_
  refine q_callVL (As := [.int (gI (M a0 4 (-1))), .int (gI a1), .int (gI a2), .int (gI a3)]) (st := []) C vX3_110 kX0_blackTargets ⟨by decide, by decide⟩ ⟨by decide, by decide⟩ rfl r2 ⟨_, _, rfl⟩ (by decide) rfl (Nat.le_of_ble_eq_true rfl) (mX0_blackTargets l D cy kd ln rh _ (M a0 0 (-1)) (M a0 4 (-1)) a1 a2 a3 M r2 h) dX3_isLost_11 (fun c5 M4 h => ?_)
  refine q_lstore (lv' := [(4, .long (gL c5)), (0, .ref (gad a0)), (1, .int (gI a1)), (2, .int (gI a2)), (3, .int (gI a3))]) C (by decide) rfl dX3_isLost_14 ?_
  refine q_lload C 0 rfl dX3_isLost_16 ?_
  refine q_iload_n C 4 rfl rfl dX3_isLost_18 ?_
  refine q_callNI (As := [.long (gL c5), .int (gI a3)]) (st := []) C vX3_180 kX6_has ⟨by decide, by decide⟩ ⟨by decide, by decide⟩ rfl rfl (Nat.le_of_ble_eq_true rfl) (mX6_has l D cy kd ln rh _ c5 a3 M4  h) dX3_isLost_19 (fun c8 M7 g9 h => ?_)
  have h := h g9
  refine q_if_eq (tgt := 27) C g9 (by decide) dX3_isLost_22 (fun b10 => ?_) (fun b10 => ?_)
  · have h := h.1 b10
    refine q_lload C 0 rfl dX3_isLost_27 ?_
    refine q_lstore (lv' := [(6, .long (gL c5)), (4, .long (gL c5)), (0, .ref (gad a0)), (1, .int (gI a1)), (2, .int (gI a2)), (3, .int (gI a3))]) C (by decide) rfl dX3_isLost_29 ?_
    refine q_lv (lv' := [(0, .ref (gad a0)), (1, .int (gI a1)), (3, .int (gI a3)), (6, .long (gL c5))]) [2, 3, 5, 0] rfl ?_
    obtain ⟨j31, h⟩ := h
    exact t31  j31 c5 M7 h
  · have h := h.2 b10
    refine q_iconst C dX3_isLost_25 ?_
    exact hret 0 M7 _ _ dX3_isLost_26 (Or.inl rfl) h
set_option maxHeartbeats 4000000 in
set_option maxRecDepth 100000 in
theorem mX3_takeBlackBack (l : Launch) (D : va_G) (cy : Nat → ClassId) (kd : gKd) (ln : gLn) (rh : gRh) (post : gM → Prop) (a0 : Int) (a1 : Int) (a2 : Int) (a3 : Int) (a4 : Int) (M : gM) (hk0 : kd a0 = 3) (h : wX3_takeBlackBack kd ln post a0 a1 a2 a3 a4 M) : gMV l D cy yX3_takeBlackBack cX3_takeBlackBack 9 3 77 [.ref (gad a0), .int (gI a1), .int (gI a2), .int (gI a3), .int (gI a4)] kd ln rh M post := by
  refine gMV_of (own := RX3) (by decide) rfl (Nat.le_of_ble_eq_true rfl) ?_
  intro p e s m args below meth c A H0 Q C hret
  have t76 : ∀ (k12 : BitVec 64 → gM → Prop), (∀ (x5 : BitVec 64), ∀ (M : gM), k12 x5 M → gW p l e (gRm 3 77) s m args below meth c D cy A H0 Q 9 kd ln rh 0 0 M 12 [(0, .ref (gad a0)), (1, .int (gI a1)), (3, .int (gI a3)), (4, .int (gI a4)), (5, .long (gL x5))] []) → ∀ (x5 : BitVec 64) (M : gM), wX3_takeBlackBack_76 kd ln post a0 a1 a2 a3 a4 k12 x5 M → gW p l e (gRm 3 77) s m args below meth c D cy A H0 Q 9 kd ln rh 0 0 M 76 [(0, .ref (gad a0)), (1, .int (gI a1)), (3, .int (gI a3)), (4, .int (gI a4)), (5, .long (gL x5))] [] := by
    intro k12 hk12_ x5 M h
    unfold wX3_takeBlackBack_76 at h
    refine q_lload C 4 rfl dX3_takeBlackBack_76 ?_
    refine q_lload C 4 rfl dX3_takeBlackBack_78 ?_
    refine q_lconst (b := 1) C rfl dX3_takeBlackBack_80 ?_
    refine q_lsub C dX3_takeBlackBack_81 ?_
    refine q_land C dX3_takeBlackBack_82 ?_
    refine q_topl (fun v30 ev30 => ?_)
    have h := h v30 ev30
    refine q_lstore (lv' := [(5, .long (gL v30)), (0, .ref (gad a0)), (1, .int (gI a1)), (3, .int (gI a3)), (4, .int (gI a4))]) C (by decide) rfl dX3_takeBlackBack_83 ?_
    refine q_goto (tgt := 12) C (by decide) dX3_takeBlackBack_85 ?_
    refine q_lv (lv' := [(0, .ref (gad a0)), (1, .int (gI a1)), (3, .int (gI a3)), (4, .int (gI a4)), (5, .long (gL v30))]) [1, 2, 3, 4, 0] rfl ?_
    exact hk12_ v30 M h
  have t12 : ∀ (n : Nat) (x5 : BitVec 64) (M : gM), wX3_takeBlackBack_12 kd ln post a0 a1 a2 a3 a4 n x5 M → gW p l e (gRm 3 77) s m args below meth c D cy A H0 Q 9 kd ln rh 0 0 M 12 [(0, .ref (gad a0)), (1, .int (gI a1)), (3, .int (gI a3)), (4, .int (gI a4)), (5, .long (gL x5))] [] := by
    intro n
    induction n with
    | zero => intro x5 M h; exact absurd h (by simp [wX3_takeBlackBack_12])
    | succ n ih =>
      intro x5 M h
      have hk12_ := ih
      rw [wX3_takeBlackBack_12] at h
      refine q_lload C 4 rfl dX3_takeBlackBack_12 ?_
      refine q_lconst (b := 0) C rfl dX3_takeBlackBack_14 ?_
      refine q_lcmp C dX3_takeBlackBack_15 ?_
      refine q_if_eq (tgt := 88) C (rng_of _) (by decide) dX3_takeBlackBack_16 (fun b6 => ?_) (fun b6 => ?_)
      · have h := h.1 b6
        exact hret M _ _ dX3_takeBlackBack_88 h
      · have h := h.2 b6
        refine q_lload C 4 rfl dX3_takeBlackBack_19 ?_
        refine q_callNI (As := [.long (gL x5)]) (st := []) C vX3_160 kX6_lowest ⟨by decide, by decide⟩ ⟨by decide, by decide⟩ rfl rfl (Nat.le_of_ble_eq_true rfl) (mX6_lowest l D cy kd ln rh _ x5 M  h) dX3_takeBlackBack_21 (fun c8 M7 g9 h => ?_)
        have h := h g9
        refine q_istore (lv' := [(7, .int (gI c8)), (0, .ref (gad a0)), (1, .int (gI a1)), (3, .int (gI a3)), (4, .int (gI a4)), (5, .long (gL x5))]) C (by decide) rfl dX3_takeBlackBack_24 ?_
        refine q_aload_n C 1 rfl rfl dX3_takeBlackBack_26 ?_
        refine q_get (v := gR (M7 a0 2 (-1))) C fX3_29 hk0 rfl dX3_takeBlackBack_27 (fun g10 => ?_)
        obtain ⟨r11, h⟩ := h
        refine q_nn r11 (by decide) ?_
        refine q_iload_n C 2 rfl rfl dX3_takeBlackBack_30 ?_
        refine q_iload C 0 rfl dX3_takeBlackBack_31 ?_
        refine q_iload_n C 3 rfl rfl dX3_takeBlackBack_33 ?_
        refine q_iconst C dX3_takeBlackBack_34 ?_
        refine q_callVI (As := [.int (gI a1), .int (gI c8), .int (gI a3), .int (gI 1)]) (st := []) C vX3_164 kX2_cellOf ⟨by decide, by decide⟩ ⟨by decide, by decide⟩ rfl r11 ⟨_, _, rfl⟩ (by decide) rfl (Nat.le_of_ble_eq_true rfl) (mX2_cellOf l D cy kd ln rh _ (M7 a0 2 (-1)) a1 c8 a3 1 M7 r11 h) dX3_takeBlackBack_35 (fun c13 M12 g14 h => ?_)
        have h := h g14
        refine q_istore (lv' := [(8, .int (gI c13)), (7, .int (gI c8)), (0, .ref (gad a0)), (1, .int (gI a1)), (3, .int (gI a3)), (4, .int (gI a4)), (5, .long (gL x5))]) C (by decide) rfl dX3_takeBlackBack_38 ?_
        refine q_iload C 0 rfl dX3_takeBlackBack_40 ?_
        refine q_iconst C dX3_takeBlackBack_42 ?_
        refine q_icmp_eq (tgt := 76) C g14 (show rng (-1) by decide) (by decide) dX3_takeBlackBack_43 (fun b15 => ?_) (fun b15 => ?_)
        · have h := h.1 b15
          refine q_lv (lv' := [(0, .ref (gad a0)), (1, .int (gI a1)), (3, .int (gI a3)), (4, .int (gI a4)), (5, .long (gL x5))]) [2, 3, 4, 5, 6] rfl ?_
          exact t76 (wX3_takeBlackBack_12 kd ln post a0 a1 a2 a3 a4 n) hk12_ x5 M12 h
        · have h := h.2 b15
          refine q_aload_n C 2 rfl rfl dX3_takeBlackBack_46 ?_
          obtain ⟨r17, h⟩ := h
          obtain ⟨r18, h⟩ := h
          obtain ⟨r19, h⟩ := h
          refine q_get (v := .ref (rh (M12 a0 3 (-1)) 1)) C fX3_34 hk0 (if_neg r17) dX3_takeBlackBack_47 (fun g16 => ?_)
          refine q_iload C 0 rfl dX3_takeBlackBack_50 ?_
          obtain ⟨r20, h⟩ := h
          refine q_bald C r18 rfl (fun _ q => q) r20 dX3_takeBlackBack_52 (fun g21 => ?_)
          have h := h g21
          refine q_iconst C dX3_takeBlackBack_53 ?_
          refine q_icmp_ne (tgt := 76) C g21 (show rng (-1) by decide) (by decide) dX3_takeBlackBack_54 (fun b22 => ?_) (fun b22 => ?_)
          · have h := h.1 b22
            refine q_lv (lv' := [(0, .ref (gad a0)), (1, .int (gI a1)), (3, .int (gI a3)), (4, .int (gI a4)), (5, .long (gL x5))]) [2, 3, 4, 5, 6] rfl ?_
            exact t76 (wX3_takeBlackBack_12 kd ln post a0 a1 a2 a3 a4 n) hk12_ x5 M12 h
          · have h := h.2 b22
            refine q_aload_n C 2 rfl rfl dX3_takeBlackBack_57 ?_
            refine q_iload_n C 3 rfl rfl dX3_takeBlackBack_58 ?_
            refine q_iload C 1 rfl dX3_takeBlackBack_59 ?_
            refine q_iload_n C 4 rfl rfl dX3_takeBlackBack_61 ?_
            refine q_callVI (As := [.int (gI a1), .int (gI c8), .int (gI a3)]) (st := []) C vX3_176 kX3_isLost ⟨by decide, by decide⟩ ⟨by decide, by decide⟩ rfl hk0 ⟨_, _, rfl⟩ (by decide) rfl (Nat.le_of_ble_eq_true rfl) (mX3_isLost l D cy kd ln rh _ a0 a1 c8 a3 M12 hk0 h) dX3_takeBlackBack_62 (fun c24 M23 g25 h => ?_)
            have h := h g25
            refine q_if_eq (tgt := 76) C g25 (by decide) dX3_takeBlackBack_65 (fun b26 => ?_) (fun b26 => ?_)
            · have h := h.1 b26
              refine q_lv (lv' := [(0, .ref (gad a0)), (1, .int (gI a1)), (3, .int (gI a3)), (4, .int (gI a4)), (5, .long (gL x5))]) [2, 3, 4, 5, 6] rfl ?_
              exact t76 (wX3_takeBlackBack_12 kd ln post a0 a1 a2 a3 a4 n) hk12_ x5 M23 h
            · have h := h.2 b26
              refine q_aload_n C 2 rfl rfl dX3_takeBlackBack_68 ?_
              refine q_iload C 0 rfl dX3_takeBlackBack_69 ?_
              refine q_iload C 5 rfl dX3_takeBlackBack_71 ?_
              refine q_callVV (As := [.int (gI c13), .int (gI a4)]) (st := []) C vX3_90 kX3_settle ⟨by decide, by decide⟩ ⟨by decide, by decide⟩ rfl hk0 ⟨_, _, rfl⟩ (by decide) rfl (Nat.le_of_ble_eq_true rfl) (mX3_settle l D cy kd ln rh _ a0 c13 a4 M23 hk0 h) dX3_takeBlackBack_73 (fun M27 h => ?_)
              refine q_lv (lv' := [(0, .ref (gad a0)), (1, .int (gI a1)), (3, .int (gI a3)), (4, .int (gI a4)), (5, .long (gL x5))]) [2, 3, 4, 5, 6] rfl ?_
              exact t76 (wX3_takeBlackBack_12 kd ln post a0 a1 a2 a3 a4 n) hk12_ x5 M27 h
  unfold wX3_takeBlackBack at h
  refine q_aload_n C 0 rfl rfl dX3_takeBlackBack_0 ?_
  refine q_get (v := gR (M a0 0 (-1))) C fX3_15 hk0 rfl dX3_takeBlackBack_1 (fun g1 => ?_)
  obtain ⟨r2, h⟩ := h
  refine q_nn r2 (by decide) ?_
  refine q_iload_n C 1 rfl rfl dX3_takeBlackBack_4 ?_
  refine q_iload_n C 2 rfl rfl dX3_takeBlackBack_5 ?_
  refine q_iload_n C 3 rfl rfl dX3_takeBlackBack_6 ?_
  refine q_callVL (As := [.int (gI a1), .int (gI a2), .int (gI a3)]) (st := []) C vX3_173 kX0_blackSources ⟨by decide, by decide⟩ ⟨by decide, by decide⟩ rfl r2 ⟨_, _, rfl⟩ (by decide) rfl (Nat.le_of_ble_eq_true rfl) (mX0_blackSources l D cy kd ln rh _ (M a0 0 (-1)) a1 a2 a3 M r2 h) dX3_takeBlackBack_7 (fun c4 M3 h => ?_)
  refine q_lstore (lv' := [(5, .long (gL c4)), (0, .ref (gad a0)), (1, .int (gI a1)), (2, .int (gI a2)), (3, .int (gI a3)), (4, .int (gI a4))]) C (by decide) rfl dX3_takeBlackBack_10 ?_
  refine q_lv (lv' := [(0, .ref (gad a0)), (1, .int (gI a1)), (3, .int (gI a3)), (4, .int (gI a4)), (5, .long (gL c4))]) [1, 2, 4, 5, 0] rfl ?_
  obtain ⟨j12, h⟩ := h
  exact t12  j12 c4 M3 h
set_option maxHeartbeats 4000000 in
set_option maxRecDepth 100000 in
theorem mX3_goBackFrom (l : Launch) (D : va_G) (cy : Nat → ClassId) (kd : gKd) (ln : gLn) (rh : gRh) (post : gM → Prop) (a0 : Int) (a1 : Int) (a2 : Int) (M : gM) (hk0 : kd a0 = 3) (h : wX3_goBackFrom kd ln post a0 a1 a2 M) : gMV l D cy yX3_goBackFrom cX3_goBackFrom 6 4 105 [.ref (gad a0), .int (gI a1), .int (gI a2)] kd ln rh M post := by
  refine gMV_of (own := RX3) (by decide) rfl (Nat.le_of_ble_eq_true rfl) ?_
  intro p e s m args below meth c A H0 Q C hret
  unfold wX3_goBackFrom at h
  refine q_aload_n C 0 rfl rfl dX3_goBackFrom_0 ?_
  refine q_get (v := gR (M a0 2 (-1))) C fX3_29 hk0 rfl dX3_goBackFrom_1 (fun g1 => ?_)
  obtain ⟨r2, h⟩ := h
  refine q_nn r2 (by decide) ?_
  obtain ⟨r3, h⟩ := h
  refine q_get (v := .ref (rh (M a0 2 (-1)) 1)) C fX3_93 r2 (if_neg (Int.not_lt.mpr r3)) dX3_goBackFrom_4 (fun g4 => ?_)
  refine q_iload_n C 1 rfl rfl dX3_goBackFrom_7 ?_
  refine q_callSI (As := [.int (gI a1)]) (st := [.ref (rh (M a0 2 (-1)) 1)]) C vX3_96 kX5_pairOf ⟨by decide, by decide⟩ ⟨by decide, by decide⟩ rfl rfl (Nat.le_of_ble_eq_true rfl) (mX5_pairOf l D cy kd ln rh _ a1 M  h) dX3_goBackFrom_8 (fun c6 M5 g7 h => ?_)
  have h := h g7
  obtain ⟨r8, h⟩ := h
  refine q_iald C r2 rfl (fun _ q => q) r8 dX3_goBackFrom_11 (fun g9 => ?_)
  have h := h g9
  refine q_topi (fun v10 ev10 => ?_)
  have h := h v10 ev10
  have gv10 : rng v10 := by rw [ev10]; exact g9
  refine q_istore_n (lv' := [(3, .int (gI v10)), (0, .ref (gad a0)), (1, .int (gI a1)), (2, .int (gI a2))]) C rfl (by decide) rfl dX3_goBackFrom_12 ?_
  refine q_aload_n C 1 rfl rfl dX3_goBackFrom_13 ?_
  refine q_get (v := gR (M5 a0 2 (-1))) C fX3_29 hk0 rfl dX3_goBackFrom_14 (fun g11 => ?_)
  obtain ⟨r12, h⟩ := h
  refine q_nn r12 (by decide) ?_
  obtain ⟨r13, h⟩ := h
  refine q_get (v := .ref (rh (M5 a0 2 (-1)) 2)) C fX3_100 r12 (if_neg (Int.not_lt.mpr r13)) dX3_goBackFrom_17 (fun g14 => ?_)
  refine q_iload_n C 2 rfl rfl dX3_goBackFrom_20 ?_
  refine q_callSI (As := [.int (gI a1)]) (st := [.ref (rh (M5 a0 2 (-1)) 2)]) C vX3_96 kX5_pairOf ⟨by decide, by decide⟩ ⟨by decide, by decide⟩ rfl rfl (Nat.le_of_ble_eq_true rfl) (mX5_pairOf l D cy kd ln rh _ a1 M5  h) dX3_goBackFrom_21 (fun c16 M15 g17 h => ?_)
  have h := h g17
  obtain ⟨r18, h⟩ := h
  refine q_iald C r12 rfl (fun _ q => q) r18 dX3_goBackFrom_24 (fun g19 => ?_)
  have h := h g19
  refine q_topi (fun v20 ev20 => ?_)
  have h := h v20 ev20
  have gv20 : rng v20 := by rw [ev20]; exact g19
  refine q_istore (lv' := [(4, .int (gI v20)), (3, .int (gI v10)), (0, .ref (gad a0)), (1, .int (gI a1)), (2, .int (gI a2))]) C (by decide) rfl dX3_goBackFrom_25 ?_
  refine q_iload_n C 3 rfl rfl dX3_goBackFrom_27 ?_
  refine q_callSI (As := [.int (gI a1)]) (st := []) C vX3_103 kX5_manOf ⟨by decide, by decide⟩ ⟨by decide, by decide⟩ rfl rfl (Nat.le_of_ble_eq_true rfl) (mX5_manOf l D cy kd ln rh _ a1 M15  h) dX3_goBackFrom_28 (fun c22 M21 g23 h => ?_)
  have h := h g23
  refine q_istore (lv' := [(5, .int (gI c22)), (4, .int (gI v20)), (3, .int (gI v10)), (0, .ref (gad a0)), (1, .int (gI a1)), (2, .int (gI a2))]) C (by decide) rfl dX3_goBackFrom_31 ?_
  refine q_iload_n C 4 rfl rfl dX3_goBackFrom_33 ?_
  refine q_callSI (As := [.int (gI a1)]) (st := []) C vX3_143 kX5_turnOf ⟨by decide, by decide⟩ ⟨by decide, by decide⟩ rfl rfl (Nat.le_of_ble_eq_true rfl) (mX5_turnOf l D cy kd ln rh _ a1 M21  h) dX3_goBackFrom_34 (fun c25 M24 g26 h => ?_)
  have h := h g26
  refine q_iconst C dX3_goBackFrom_37 ?_
  refine q_icmp_ne (tgt := 64) C g26 (show rng 1 by decide) (by decide) dX3_goBackFrom_38 (fun b27 => ?_) (fun b27 => ?_)
  · have h := h.1 b27
    refine q_aload_n C 3 rfl rfl dX3_goBackFrom_64 ?_
    refine q_iload_n C 2 rfl rfl dX3_goBackFrom_65 ?_
    refine q_iload C 1 rfl dX3_goBackFrom_66 ?_
    refine q_iload C 0 rfl dX3_goBackFrom_68 ?_
    refine q_iload_n C 5 rfl rfl dX3_goBackFrom_70 ?_
    refine q_callVV (As := [.int (gI v10), .int (gI v20), .int (gI c22), .int (gI a2)]) (st := []) C vX3_153 kX3_takeBlackBack ⟨by decide, by decide⟩ ⟨by decide, by decide⟩ rfl hk0 ⟨_, _, rfl⟩ (by decide) rfl (Nat.le_of_ble_eq_true rfl) (mX3_takeBlackBack l D cy kd ln rh _ a0 v10 v20 c22 a2 M24 hk0 h) dX3_goBackFrom_71 (fun M28 h => ?_)
    exact hret M28 _ _ dX3_goBackFrom_74 h
  · have h := h.2 b27
    refine q_aload_n C 3 rfl rfl dX3_goBackFrom_41 ?_
    refine q_iload_n C 2 rfl rfl dX3_goBackFrom_42 ?_
    refine q_iload C 1 rfl dX3_goBackFrom_43 ?_
    refine q_iload C 0 rfl dX3_goBackFrom_45 ?_
    refine q_iload_n C 5 rfl rfl dX3_goBackFrom_47 ?_
    refine q_callVV (As := [.int (gI v10), .int (gI v20), .int (gI c22), .int (gI a2)]) (st := []) C vX3_146 kX3_takeKingBack ⟨by decide, by decide⟩ ⟨by decide, by decide⟩ rfl hk0 ⟨_, _, rfl⟩ (by decide) rfl (Nat.le_of_ble_eq_true rfl) (mX3_takeKingBack l D cy kd ln rh _ a0 v10 v20 c22 a2 M24 hk0 h) dX3_goBackFrom_48 (fun M31 h => ?_)
    refine q_aload_n C 3 rfl rfl dX3_goBackFrom_51 ?_
    refine q_iload_n C 2 rfl rfl dX3_goBackFrom_52 ?_
    refine q_iload C 1 rfl dX3_goBackFrom_53 ?_
    refine q_iload C 0 rfl dX3_goBackFrom_55 ?_
    refine q_iload_n C 5 rfl rfl dX3_goBackFrom_57 ?_
    refine q_callVV (As := [.int (gI v10), .int (gI v20), .int (gI c22), .int (gI a2)]) (st := []) C vX3_150 kX3_takeManBack ⟨by decide, by decide⟩ ⟨by decide, by decide⟩ rfl hk0 ⟨_, _, rfl⟩ (by decide) rfl (Nat.le_of_ble_eq_true rfl) (mX3_takeManBack l D cy kd ln rh _ a0 v10 v20 c22 a2 M31 hk0 h) dX3_goBackFrom_58 (fun M34 h => ?_)
    refine q_goto (tgt := 74) C (by decide) dX3_goBackFrom_61 ?_
    exact hret M34 _ _ dX3_goBackFrom_74 h
set_option maxHeartbeats 4000000 in
set_option maxRecDepth 100000 in
theorem mX3_settlePromotions (l : Launch) (D : va_G) (cy : Nat → ClassId) (kd : gKd) (ln : gLn) (rh : gRh) (post : gM → Prop) (a0 : Int) (a1 : Int) (M : gM) (hk0 : kd a0 = 3) (h : wX3_settlePromotions kd ln post a0 a1 M) : gMV l D cy yX3_settlePromotions cX3_settlePromotions 4 1 22 [.ref (gad a0), .int (gI a1)] kd ln rh M post := by
  refine gMV_of (own := RX3) (by decide) rfl (Nat.le_of_ble_eq_true rfl) ?_
  intro p e s m args below meth c A H0 Q C hret
  have t12 : ∀ (n : Nat) (x2 : Int) (x3 : Int) (M : gM), wX3_settlePromotions_12 kd ln post a0 a1 n x2 x3 M → gW p l e (gRm 1 22) s m args below meth c D cy A H0 Q 4 kd ln rh 0 0 M 12 [(0, .ref (gad a0)), (1, .int (gI a1)), (2, .int (gI x2)), (3, .int (gI x3))] [] := by
    intro n
    induction n with
    | zero => intro x2 x3 M h; exact absurd h (by simp [wX3_settlePromotions_12])
    | succ n ih =>
      intro x2 x3 M h
      have hk12_ := ih
      rw [wX3_settlePromotions_12] at h
      refine q_iload_n C 3 rfl rfl dX3_settlePromotions_12 ?_
      obtain ⟨r8, h⟩ := h
      refine q_if_le (tgt := 45) C r8 (by decide) dX3_settlePromotions_13 (fun b9 => ?_) (fun b9 => ?_)
      · have h := h.1 b9
        exact hret M _ _ dX3_settlePromotions_45 h
      · have h := h.2 b9
        refine q_iload_n C 2 rfl rfl dX3_settlePromotions_16 ?_
        refine q_iconst C dX3_settlePromotions_17 ?_
        obtain ⟨r10, h⟩ := h
        refine q_icmp_eq (tgt := 45) C r10 (show rng (-1) by decide) (by decide) dX3_settlePromotions_18 (fun b11 => ?_) (fun b11 => ?_)
        · have h := h.1 b11
          exact hret M _ _ dX3_settlePromotions_45 h
        · have h := h.2 b11
          refine q_aload_n C 0 rfl rfl dX3_settlePromotions_21 ?_
          refine q_aload_n C 0 rfl rfl dX3_settlePromotions_22 ?_
          obtain ⟨r12, h⟩ := h
          refine q_get (v := .ref (rh a0 9)) C fX3_59 hk0 (if_neg (Int.not_lt.mpr r12)) dX3_settlePromotions_23 (fun g13 => ?_)
          refine q_iload_n C 2 rfl rfl dX3_settlePromotions_26 ?_
          obtain ⟨r14, h⟩ := h
          refine q_iald C hk0 rfl (fun _ q => q) r14 dX3_settlePromotions_27 (fun g15 => ?_)
          have h := h g15
          refine q_iload_n C 1 rfl rfl dX3_settlePromotions_28 ?_
          refine q_callVV (As := [.int (gI (M a0 9 x2)), .int (gI a1)]) (st := []) C vX3_90 kX3_settle ⟨by decide, by decide⟩ ⟨by decide, by decide⟩ rfl hk0 ⟨_, _, rfl⟩ (by decide) rfl (Nat.le_of_ble_eq_true rfl) (mX3_settle l D cy kd ln rh _ a0 (M a0 9 x2) a1 M hk0 h) dX3_settlePromotions_29 (fun M16 h => ?_)
          refine q_aload_n C 0 rfl rfl dX3_settlePromotions_32 ?_
          obtain ⟨r19, h⟩ := h
          refine q_get (v := .ref (rh a0 8)) C fX3_56 hk0 (if_neg (Int.not_lt.mpr r19)) dX3_settlePromotions_33 (fun g20 => ?_)
          refine q_iload_n C 2 rfl rfl dX3_settlePromotions_36 ?_
          obtain ⟨r21, h⟩ := h
          refine q_iald C hk0 rfl (fun _ q => q) r21 dX3_settlePromotions_37 (fun g22 => ?_)
          have h := h g22
          refine q_topi (fun v23 ev23 => ?_)
          have h := h v23 ev23
          have gv23 : rng v23 := by rw [ev23]; exact g22
          refine q_istore_n (lv' := [(2, .int (gI v23)), (0, .ref (gad a0)), (1, .int (gI a1)), (3, .int (gI x3))]) C rfl (by decide) rfl dX3_settlePromotions_38 ?_
          refine q_iinc (lv' := [(3, .int (gI (x3 + (-1)))), (2, .int (gI v23)), (0, .ref (gad a0)), (1, .int (gI a1))]) C 3 rfl (by decide) rfl dX3_settlePromotions_39 ?_
          refine q_goto (tgt := 12) C (by decide) dX3_settlePromotions_42 ?_
          refine q_lv (lv' := [(0, .ref (gad a0)), (1, .int (gI a1)), (2, .int (gI v23)), (3, .int (gI (x3 + (-1))))]) [2, 3, 1, 0] rfl ?_
          exact hk12_ v23 (x3 + (-1)) M16 h
  unfold wX3_settlePromotions at h
  refine q_aload_n C 0 rfl rfl dX3_settlePromotions_0 ?_
  obtain ⟨r1, h⟩ := h
  refine q_get (v := .ref (rh a0 7)) C fX3_9 hk0 (if_neg (Int.not_lt.mpr r1)) dX3_settlePromotions_1 (fun g2 => ?_)
  refine q_iload_n C 1 rfl rfl dX3_settlePromotions_4 ?_
  obtain ⟨r3, h⟩ := h
  refine q_iald C hk0 rfl (fun _ q => q) r3 dX3_settlePromotions_5 (fun g4 => ?_)
  have h := h g4
  refine q_topi (fun v5 ev5 => ?_)
  have h := h v5 ev5
  have gv5 : rng v5 := by rw [ev5]; exact g4
  refine q_istore_n (lv' := [(2, .int (gI v5)), (0, .ref (gad a0)), (1, .int (gI a1))]) C rfl (by decide) rfl dX3_settlePromotions_6 ?_
  refine q_aload_n C 1 rfl rfl dX3_settlePromotions_7 ?_
  refine q_get (v := .int (gI (M a0 10 (-1)))) C fX3_140 hk0 rfl dX3_settlePromotions_8 (fun g6 => ?_)
  have h := h g6
  refine q_topi (fun v7 ev7 => ?_)
  have h := h v7 ev7
  have gv7 : rng v7 := by rw [ev7]; exact g6
  refine q_istore_n (lv' := [(3, .int (gI v7)), (2, .int (gI v5)), (0, .ref (gad a0)), (1, .int (gI a1))]) C rfl (by decide) rfl dX3_settlePromotions_11 ?_
  refine q_lv (lv' := [(0, .ref (gad a0)), (1, .int (gI a1)), (2, .int (gI v5)), (3, .int (gI v7))]) [2, 3, 1, 0] rfl ?_
  obtain ⟨j12, h⟩ := h
  exact t12  j12 v5 v7 M h
set_option maxHeartbeats 4000000 in
set_option maxRecDepth 100000 in
theorem mX3_work (l : Launch) (D : va_G) (cy : Nat → ClassId) (kd : gKd) (ln : gLn) (rh : gRh) (post : gM → Prop) (a0 : Int) (a1 : Int) (a2 : Int) (M : gM) (hk0 : kd a0 = 3) (h : wX3_work kd ln post a0 a1 a2 M) : gMV l D cy yX3_work cX3_work 6 5 130 [.ref (gad a0), gR a1, gR a2] kd ln rh M post := by
  refine gMV_of (own := RX3) (by decide) rfl (by by_cases za1 : a1 = 0 <;> by_cases za2 : a2 = 0 <;> simp [lg_sl, gR, Value.category, za1, za2]) ?_
  intro p e s m args below meth c A H0 Q C hret
  refine q_lvE (lv' := [(0, .ref (gad a0)), (1, gR a1), (2, gR a2)]) (by by_cases za1 : a1 = 0 <;> by_cases za2 : a2 = 0 <;> simp [lv_args, gR, Value.category, za1, za2]) ?_
  have t50 : ∀ (k31 : Int → Int → gM → Prop), (∀ (x3 : Int), ∀ (x4 : Int), ∀ (M : gM), k31 x3 x4 M → gW p l e (gRm 5 130) s m args below meth c D cy A H0 Q 6 kd ln rh 0 0 M 31 [(0, .ref (gad a0)), (3, .int (gI x3)), (4, .int (gI x4))] []) → ∀ (n : Nat) (x3 : Int) (x4 : Int) (x5 : Int) (M : gM), wX3_work_50 kd ln post a0 a1 a2 k31 n x3 x4 x5 M → gW p l e (gRm 5 130) s m args below meth c D cy A H0 Q 6 kd ln rh 0 0 M 50 [(0, .ref (gad a0)), (3, .int (gI x3)), (4, .int (gI x4)), (5, .int (gI x5))] [] := by
    intro k31 hk31_
    intro n
    induction n with
    | zero => intro x3 x4 x5 M h; exact absurd h (by simp [wX3_work_50])
    | succ n ih =>
      intro x3 x4 x5 M h
      have hk50_ := ih
      rw [wX3_work_50] at h
      refine q_iload_n C 1 rfl rfl dX3_work_50 ?_
      refine q_iload C 3 rfl dX3_work_51 ?_
      obtain ⟨r20, h⟩ := h
      obtain ⟨r21, h⟩ := h
      refine q_icmp_ge (tgt := 76) C r20 r21 (by decide) dX3_work_53 (fun b22 => ?_) (fun b22 => ?_)
      · have h := h.1 b22
        refine q_iinc (lv' := [(4, .int (gI (x4 + 1))), (0, .ref (gad a0)), (3, .int (gI x3)), (5, .int (gI x5))]) C 2 rfl (by decide) rfl dX3_work_76 ?_
        refine q_goto (tgt := 31) C (by decide) dX3_work_79 ?_
        refine q_lv (lv' := [(0, .ref (gad a0)), (3, .int (gI x3)), (4, .int (gI (x4 + 1)))]) [1, 2, 0] rfl ?_
        exact hk31_ x3 (x4 + 1) M h
      · have h := h.2 b22
        refine q_aload_n C 0 rfl rfl dX3_work_56 ?_
        refine q_aload_n C 0 rfl rfl dX3_work_57 ?_
        obtain ⟨r23, h⟩ := h
        refine q_get (v := .ref (rh a0 5)) C fX3_44 hk0 (if_neg (Int.not_lt.mpr r23)) dX3_work_58 (fun g24 => ?_)
        refine q_iload_n C 1 rfl rfl dX3_work_61 ?_
        obtain ⟨r25, h⟩ := h
        refine q_iald C hk0 rfl (fun _ q => q) r25 dX3_work_62 (fun g26 => ?_)
        have h := h g26
        refine q_iload C 2 rfl dX3_work_63 ?_
        refine q_iconst C dX3_work_65 ?_
        refine q_iadd C dX3_work_66 ?_
        refine q_callVV (As := [.int (gI (M a0 5 x3)), .int (gI (x4 + 1))]) (st := []) C vX3_82 kX3_goBackFrom ⟨by decide, by decide⟩ ⟨by decide, by decide⟩ rfl hk0 ⟨_, _, rfl⟩ (by decide) rfl (Nat.le_of_ble_eq_true rfl) (mX3_goBackFrom l D cy kd ln rh _ a0 (M a0 5 x3) (x4 + 1) M hk0 h) dX3_work_67 (fun M27 h => ?_)
        refine q_iinc (lv' := [(3, .int (gI (x3 + 1))), (0, .ref (gad a0)), (4, .int (gI x4)), (5, .int (gI x5))]) C 1 rfl (by decide) rfl dX3_work_70 ?_
        refine q_goto (tgt := 50) C (by decide) dX3_work_73 ?_
        refine q_lv (lv' := [(0, .ref (gad a0)), (3, .int (gI (x3 + 1))), (4, .int (gI x4)), (5, .int (gI x5))]) [1, 0, 2, 3] rfl ?_
        exact hk50_ (x3 + 1) x4 x5 M27 h
  have t31 : ∀ (n : Nat) (x3 : Int) (x4 : Int) (M : gM), wX3_work_31 kd ln post a0 a1 a2 n x3 x4 M → gW p l e (gRm 5 130) s m args below meth c D cy A H0 Q 6 kd ln rh 0 0 M 31 [(0, .ref (gad a0)), (3, .int (gI x3)), (4, .int (gI x4))] [] := by
    intro n
    induction n with
    | zero => intro x3 x4 M h; exact absurd h (by simp [wX3_work_31])
    | succ n ih =>
      intro x3 x4 M h
      have hk31_ := ih
      rw [wX3_work_31] at h
      refine q_iload C 2 rfl dX3_work_31 ?_
      refine q_bipush C (by decide) dX3_work_33 ?_
      obtain ⟨r13, h⟩ := h
      refine q_icmp_ge (tgt := 82) C r13 (show rng 126 by decide) (by decide) dX3_work_35 (fun b14 => ?_) (fun b14 => ?_)
      · have h := h.1 b14
        exact hret M _ _ dX3_work_82 h
      · have h := h.2 b14
        refine q_aload_n C 0 rfl rfl dX3_work_38 ?_
        refine q_iload C 2 rfl dX3_work_39 ?_
        refine q_callVV (As := [.int (gI x4)]) (st := []) C vX3_75 kX3_settlePromotions ⟨by decide, by decide⟩ ⟨by decide, by decide⟩ rfl hk0 ⟨_, _, rfl⟩ (by decide) rfl (Nat.le_of_ble_eq_true rfl) (mX3_settlePromotions l D cy kd ln rh _ a0 x4 M hk0 h) dX3_work_41 (fun M15 h => ?_)
        refine q_aload_n C 0 rfl rfl dX3_work_44 ?_
        refine q_get (v := .int (gI (M15 a0 6 (-1)))) C fX3_79 hk0 rfl dX3_work_45 (fun g18 => ?_)
        have h := h g18
        refine q_topi (fun v19 ev19 => ?_)
        have h := h v19 ev19
        have gv19 : rng v19 := by rw [ev19]; exact g18
        refine q_istore (lv' := [(5, .int (gI v19)), (0, .ref (gad a0)), (3, .int (gI x3)), (4, .int (gI x4))]) C (by decide) rfl dX3_work_48 ?_
        refine q_lv (lv' := [(0, .ref (gad a0)), (3, .int (gI x3)), (4, .int (gI x4)), (5, .int (gI v19))]) [1, 2, 3, 0] rfl ?_
        obtain ⟨j50, h⟩ := h
        exact t50 (wX3_work_31 kd ln post a0 a1 a2 n) hk31_ j50 x3 x4 v19 M15 h
  have t26 : ∀ (M : gM), wX3_work_26 kd ln post a0 a1 a2  M → gW p l e (gRm 5 130) s m args below meth c D cy A H0 Q 6 kd ln rh 0 0 M 26 [(0, .ref (gad a0))] [] := by
    intro   M h
    unfold wX3_work_26 at h
    refine q_iconst C dX3_work_26 ?_
    refine q_istore_n (lv' := [(3, .int (gI 0)), (0, .ref (gad a0))]) C rfl (by decide) rfl dX3_work_27 ?_
    refine q_iconst C dX3_work_28 ?_
    refine q_istore (lv' := [(4, .int (gI 0)), (3, .int (gI 0)), (0, .ref (gad a0))]) C (by decide) rfl dX3_work_29 ?_
    refine q_lv (lv' := [(0, .ref (gad a0)), (3, .int (gI 0)), (4, .int (gI 0))]) [2, 1, 0] rfl ?_
    obtain ⟨j31, h⟩ := h
    exact t31  j31 0 0 M h
  unfold wX3_work at h
  refine q_aload_n C 0 rfl rfl dX3_work_0 ?_
  refine q_callVV (As := []) (st := []) C vX3_68 kX3_findMates ⟨by decide, by decide⟩ ⟨by decide, by decide⟩ rfl hk0 ⟨_, _, rfl⟩ (by decide) rfl (Nat.le_of_ble_eq_true rfl) (mX3_findMates l D cy kd ln rh _ a0 M hk0 h) dX3_work_1 (fun M1 h => ?_)
  refine q_aload_n C 0 rfl rfl dX3_work_4 ?_
  refine q_get (v := .int (gI (M1 a0 4 (-1)))) C fX3_39 hk0 rfl dX3_work_5 (fun g4 => ?_)
  have h := h g4
  refine q_iconst C dX3_work_8 ?_
  refine q_icmp_ne (tgt := 26) C g4 (show rng 2 by decide) (by decide) dX3_work_9 (fun b5 => ?_) (fun b5 => ?_)
  · have h := h.1 b5
    refine q_lv (lv' := [(0, .ref (gad a0))]) [0] rfl ?_
    exact t26  M1 h
  · have h := h.2 b5
    refine q_aloadR_n C 1 rfl rfl dX3_work_12 ?_
    refine q_ifnull (tgt := 26) C (by decide) dX3_work_13 (fun b6 => ?_) (fun b6 => ?_)
    · have h := h.1 b6
      refine q_lv (lv' := [(0, .ref (gad a0))]) [0] rfl ?_
      exact t26  M1 h
    · have h := h.2 b6
      refine q_aloadR_n C 2 rfl rfl dX3_work_16 ?_
      refine q_ifnull (tgt := 26) C (by decide) dX3_work_17 (fun b7 => ?_) (fun b7 => ?_)
      · have h := h.1 b7
        refine q_lv (lv' := [(0, .ref (gad a0))]) [0] rfl ?_
        exact t26  M1 h
      · have h := h.2 b7
        refine q_aload_n C 0 rfl rfl dX3_work_20 ?_
        refine q_aloadR_n C 1 rfl rfl dX3_work_21 ?_
        obtain ⟨r8, h⟩ := h
        refine q_nn r8 (by decide) ?_
        refine q_aloadR_n C 2 rfl rfl dX3_work_22 ?_
        obtain ⟨r9, h⟩ := h
        refine q_nn r9 (by decide) ?_
        refine q_callVV (As := [.ref (gad a1), .ref (gad a2)]) (st := []) C vX3_71 kX3_findPromotions ⟨by decide, by decide⟩ ⟨by decide, by decide⟩ rfl hk0 ⟨_, _, rfl⟩ (by decide) rfl (Nat.le_of_ble_eq_true rfl) (mX3_findPromotions l D cy kd ln rh _ a0 a1 a2 M1 hk0 r8 r9 h) dX3_work_23 (fun M10 h => ?_)
        refine q_lv (lv' := [(0, .ref (gad a0))]) [0] rfl ?_
        exact t26  M10 h
set_option maxHeartbeats 4000000 in
set_option maxRecDepth 100000 in
theorem mX4_play (l : Launch) (D : va_G) (cy : Nat → ClassId) (kd : gKd) (ln : gLn) (rh : gRh) (post : gM → Prop) (a0 : Int) (a1 : Int) (M : gM) (hk0 : kd a0 = 4) (hk1 : kd a1 = 1) (h : wX4_play kd ln post a0 a1 M) : gMV l D cy yX4_play cX4_play 4 1 22 [.ref (gad a0), .ref (gad a1)] kd ln rh M post := by
  refine gMV_of (own := RX4) (by decide) rfl (Nat.le_of_ble_eq_true rfl) ?_
  intro p e s m args below meth c A H0 Q C hret
  have t73 : ∀ (M : gM), wX4_play_73 kd ln post a0 a1  M → gW p l e (gRm 1 22) s m args below meth c D cy A H0 Q 4 kd ln rh 0 0 M 73 [(0, .ref (gad a0))] [] := by
    intro   M h
    unfold wX4_play_73 at h
    refine q_aload_n C 0 rfl rfl dX4_play_73 ?_
    refine q_iconst C dX4_play_74 ?_
    refine q_aload_n C 0 rfl rfl dX4_play_75 ?_
    refine q_get (v := .int (gI (M a0 4 (-1)))) C fX4_24 hk0 rfl dX4_play_76 (fun g16 => ?_)
    have h := h g16
    refine q_isub C dX4_play_79 ?_
    obtain ⟨r17, h⟩ := h
    refine q_put (x := (1 - (M a0 4 (-1)))) (ty := .int) C fX4_24 hk0 (fun _ _ _ q => by cases q; rfl) (congrArg (fun z => Value.int (gI z)) gu_s) rfl rfl r17 dX4_play_80 ?_
    exact hret (gu M a0 4 (-1) (1 - (M a0 4 (-1)))) _ _ dX4_play_83 h
  have t70 : ∀ (y0 : Int) (M : gM), wX4_play_70 kd ln post a0 a1 y0 M → gW p l e (gRm 1 22) s m args below meth c D cy A H0 Q 4 kd ln rh 0 0 M 70 [(0, .ref (gad a0))] [.int (gI y0), .ref (gad a0)] := by
    intro  y0 M h
    unfold wX4_play_70 at h
    obtain ⟨r18, h⟩ := h
    refine q_put (x := y0) (ty := .int) C fX4_9 hk0 (fun _ _ _ q => by cases q; rfl) (congrArg (fun z => Value.int (gI z)) gu_s) rfl rfl r18 dX4_play_70 ?_
    exact t73  (gu M a0 0 (-1) y0) h
  unfold wX4_play at h
  refine q_aload_n C 1 rfl rfl dX4_play_0 ?_
  refine q_iconst C dX4_play_1 ?_
  refine q_iconst C dX4_play_2 ?_
  refine q_callVI (As := [.int (gI 0), .int (gI 1)]) (st := []) C vX4_29 kX1_tell ⟨by decide, by decide⟩ ⟨by decide, by decide⟩ rfl hk1 ⟨_, _, rfl⟩ (by decide) rfl (Nat.le_of_ble_eq_true rfl) (mX1_tell l D cy kd ln rh _ a1 0 1 M hk1 h) dX4_play_3 (fun c2 M1 g3 h => ?_)
  have h := h g3
  refine q_istore_n (lv' := [(2, .int (gI c2)), (0, .ref (gad a0)), (1, .ref (gad a1))]) C rfl (by decide) rfl dX4_play_6 ?_
  refine q_aload_n C 2 rfl rfl dX4_play_7 ?_
  refine q_iconst C dX4_play_8 ?_
  refine q_iconst C dX4_play_9 ?_
  refine q_callVI (As := [.int (gI 0), .int (gI 2)]) (st := []) C vX4_29 kX1_tell ⟨by decide, by decide⟩ ⟨by decide, by decide⟩ rfl hk1 ⟨_, _, rfl⟩ (by decide) rfl (Nat.le_of_ble_eq_true rfl) (mX1_tell l D cy kd ln rh _ a1 0 2 M1 hk1 h) dX4_play_10 (fun c5 M4 g6 h => ?_)
  have h := h g6
  refine q_istore_n (lv' := [(3, .int (gI c5)), (2, .int (gI c2)), (0, .ref (gad a0)), (1, .ref (gad a1))]) C rfl (by decide) rfl dX4_play_13 ?_
  refine q_aload_n C 2 rfl rfl dX4_play_14 ?_
  refine q_get (v := .int (gI (M4 a0 4 (-1)))) C fX4_24 hk0 rfl dX4_play_15 (fun g7 => ?_)
  have h := h g7
  refine q_iconst C dX4_play_18 ?_
  refine q_icmp_ne (tgt := 30) C g7 (show rng 1 by decide) (by decide) dX4_play_19 (fun b8 => ?_) (fun b8 => ?_)
  · have h := h.1 b8
    refine q_aload_n C 3 rfl rfl dX4_play_30 ?_
    refine q_iconst C dX4_play_31 ?_
    refine q_iconst C dX4_play_32 ?_
    refine q_callVI (As := [.int (gI 0), .int (gI 0)]) (st := []) C vX4_29 kX1_tell ⟨by decide, by decide⟩ ⟨by decide, by decide⟩ rfl hk1 ⟨_, _, rfl⟩ (by decide) rfl (Nat.le_of_ble_eq_true rfl) (mX1_tell l D cy kd ln rh _ a1 0 0 M4 hk1 h) dX4_play_33 (fun c10 M9 g11 h => ?_)
    have h := h g11
    refine q_aload_n C 2 rfl rfl dX4_play_36 ?_
    refine q_get (v := .int (gI (M9 a0 1 (-1)))) C fX4_15 hk0 rfl dX4_play_37 (fun g12 => ?_)
    have h := h g12
    refine q_icmp_ne (tgt := 51) C g11 g12 (by decide) dX4_play_40 (fun b13 => ?_) (fun b13 => ?_)
    · have h := h.1 b13
      refine q_aload_n C 2 rfl rfl dX4_play_51 ?_
      refine q_iload_n C 1 rfl rfl dX4_play_52 ?_
      refine q_put (x := c2) (ty := .int) C fX4_21 hk0 (fun _ _ _ q => by cases q; rfl) (congrArg (fun z => Value.int (gI z)) gu_s) rfl rfl g3 dX4_play_53 ?_
      refine q_aload_n C 2 rfl rfl dX4_play_56 ?_
      refine q_iload_n C 0 rfl rfl dX4_play_57 ?_
      refine q_iconst C dX4_play_58 ?_
      refine q_icmp_ne (tgt := 69) C g6 (show rng (-1) by decide) (by decide) dX4_play_59 (fun b14 => ?_) (fun b14 => ?_)
      · have h := h.1 b14
        refine q_iload_n C 0 rfl rfl dX4_play_69 ?_
        refine q_lv (lv' := [(0, .ref (gad a0))]) [2] rfl ?_
        exact t70  c5 (gu M9 a0 3 (-1) c2) h
      · have h := h.2 b14
        refine q_aload_n C 2 rfl rfl dX4_play_62 ?_
        refine q_get (v := .int (gI ((gu M9 a0 3 (-1) c2) a0 0 (-1)))) C fX4_9 hk0 rfl dX4_play_63 (fun g15 => ?_)
        have h := h g15
        refine q_goto (tgt := 70) C (by decide) dX4_play_66 ?_
        refine q_lv (lv' := [(0, .ref (gad a0))]) [2] rfl ?_
        exact t70  ((gu M9 a0 3 (-1) c2) a0 0 (-1)) (gu M9 a0 3 (-1) c2) h
    · have h := h.2 b13
      refine q_aload_n C 2 rfl rfl dX4_play_43 ?_
      refine q_iload_n C 1 rfl rfl dX4_play_44 ?_
      refine q_put (x := c2) (ty := .int) C fX4_15 hk0 (fun _ _ _ q => by cases q; rfl) (congrArg (fun z => Value.int (gI z)) gu_s) rfl rfl g3 dX4_play_45 ?_
      refine q_goto (tgt := 73) C (by decide) dX4_play_48 ?_
      refine q_lv (lv' := [(0, .ref (gad a0))]) [2] rfl ?_
      exact t73  (gu M9 a0 1 (-1) c2) h
  · have h := h.2 b8
    refine q_aload_n C 2 rfl rfl dX4_play_22 ?_
    refine q_iload_n C 1 rfl rfl dX4_play_23 ?_
    refine q_put (x := c2) (ty := .int) C fX4_18 hk0 (fun _ _ _ q => by cases q; rfl) (congrArg (fun z => Value.int (gI z)) gu_s) rfl rfl g3 dX4_play_24 ?_
    refine q_goto (tgt := 73) C (by decide) dX4_play_27 ?_
    refine q_lv (lv' := [(0, .ref (gad a0))]) [2] rfl ?_
    exact t73  (gu M4 a0 2 (-1) c2) h
set_option maxHeartbeats 4000000 in
set_option maxRecDepth 100000 in
theorem mX4_set (l : Launch) (D : va_G) (cy : Nat → ClassId) (kd : gKd) (ln : gLn) (rh : gRh) (post : gM → Prop) (a0 : Int) (a1 : Int) (a2 : Int) (a3 : Int) (a4 : Int) (a5 : Int) (M : gM) (hk0 : kd a0 = 4) (h : wX4_set kd ln post a0 a1 a2 a3 a4 a5 M) : gMV l D cy yX4_set cX4_set 6 0 0 [.ref (gad a0), .int (gI a1), .int (gI a2), .int (gI a3), .int (gI a4), .int (gI a5)] kd ln rh M post := by
  refine gMV_of (own := RX4) (by decide) rfl (Nat.le_of_ble_eq_true rfl) ?_
  intro p e s m args below meth c A H0 Q C hret
  unfold wX4_set at h
  refine q_aload_n C 0 rfl rfl dX4_set_0 ?_
  refine q_iload_n C 1 rfl rfl dX4_set_1 ?_
  obtain ⟨r1, h⟩ := h
  refine q_put (x := a1) (ty := .int) C fX4_9 hk0 (fun _ _ _ q => by cases q; rfl) (congrArg (fun z => Value.int (gI z)) gu_s) rfl rfl r1 dX4_set_2 ?_
  refine q_aload_n C 0 rfl rfl dX4_set_5 ?_
  refine q_iload_n C 2 rfl rfl dX4_set_6 ?_
  obtain ⟨r2, h⟩ := h
  refine q_put (x := a2) (ty := .int) C fX4_15 hk0 (fun _ _ _ q => by cases q; rfl) (congrArg (fun z => Value.int (gI z)) gu_s) rfl rfl r2 dX4_set_7 ?_
  refine q_aload_n C 0 rfl rfl dX4_set_10 ?_
  refine q_iload_n C 3 rfl rfl dX4_set_11 ?_
  obtain ⟨r3, h⟩ := h
  refine q_put (x := a3) (ty := .int) C fX4_18 hk0 (fun _ _ _ q => by cases q; rfl) (congrArg (fun z => Value.int (gI z)) gu_s) rfl rfl r3 dX4_set_12 ?_
  refine q_aload_n C 0 rfl rfl dX4_set_15 ?_
  refine q_iload C 4 rfl dX4_set_16 ?_
  obtain ⟨r4, h⟩ := h
  refine q_put (x := a4) (ty := .int) C fX4_21 hk0 (fun _ _ _ q => by cases q; rfl) (congrArg (fun z => Value.int (gI z)) gu_s) rfl rfl r4 dX4_set_18 ?_
  refine q_aload_n C 0 rfl rfl dX4_set_21 ?_
  refine q_iload C 5 rfl dX4_set_22 ?_
  obtain ⟨r5, h⟩ := h
  refine q_put (x := a5) (ty := .int) C fX4_24 hk0 (fun _ _ _ q => by cases q; rfl) (congrArg (fun z => Value.int (gI z)) gu_s) rfl rfl r5 dX4_set_24 ?_
  exact hret (gu (gu (gu (gu (gu M a0 0 (-1) a1) a0 1 (-1) a2) a0 2 (-1) a3) a0 3 (-1) a4) a0 4 (-1) a5) _ _ dX4_set_27 h
set_option maxHeartbeats 4000000 in
set_option maxRecDepth 100000 in
theorem mX5_size (l : Launch) (D : va_G) (cy : Nat → ClassId) (kd : gKd) (ln : gLn) (rh : gRh) (post : Int → gM → Prop) (a0 : Int) (M : gM) (hk0 : kd a0 = 5) (h : wX5_size kd ln post a0 M) : gMI l D cy yX5_size cX5_size 1 .int 0 0 [.ref (gad a0)] kd ln rh M post := by
  refine gMI_of (own := RX5) (by decide) rfl (Nat.le_of_ble_eq_true rfl) ?_
  intro p e s m args below meth c A H0 Q C hret
  unfold wX5_size at h
  refine q_aload_n C 0 rfl rfl dX5_size_0 ?_
  obtain ⟨r1, h⟩ := h
  refine q_get (v := .ref (rh a0 9)) C fX5_54 hk0 (if_neg (Int.not_lt.mpr r1)) dX5_size_1 (fun g2 => ?_)
  refine q_aload_n C 0 rfl rfl dX5_size_4 ?_
  refine q_get (v := gR (M a0 2 (-1))) C fX5_35 hk0 rfl dX5_size_5 (fun g3 => ?_)
  obtain ⟨r4, h⟩ := h
  refine q_nn r4 (by decide) ?_
  refine q_get (v := .int (gI (M (M a0 2 (-1)) 0 (-1)))) C fX5_39 r4 rfl dX5_size_8 (fun g5 => ?_)
  have h := h g5
  obtain ⟨r6, h⟩ := h
  refine q_iald C hk0 rfl (fun _ q => q) r6 dX5_size_11 (fun g7 => ?_)
  have h := h g7
  exact hret (M a0 9 (M (M a0 2 (-1)) 0 (-1))) M _ _ dX5_size_12 g7 h
set_option maxHeartbeats 4000000 in
set_option maxRecDepth 100000 in
theorem mX5_pairWith (l : Launch) (D : va_G) (cy : Nat → ClassId) (kd : gKd) (ln : gLn) (rh : gRh) (post : Int → gM → Prop) (a0 : Int) (a1 : Int) (M : gM) (hk0 : kd a0 = 5) (h : wX5_pairWith kd ln post a0 a1 M) : gMI l D cy yX5_pairWith cX5_pairWith 5 .int 0 0 [.ref (gad a0), .int (gI a1)] kd ln rh M post := by
  refine gMI_of (own := RX5) (by decide) rfl (Nat.le_of_ble_eq_true rfl) ?_
  intro p e s m args below meth c A H0 Q C hret
  have t48 : ∀ (k12 : Int → Int → gM → Prop), (∀ (x2 : Int), ∀ (x3 : Int), ∀ (M : gM), k12 x2 x3 M → gW p l e (gRm 0 0) s m args below meth c D cy A H0 Q 5 kd ln rh 0 0 M 12 [(0, .ref (gad a0)), (1, .int (gI a1)), (2, .int (gI x2)), (3, .int (gI x3))] []) → ∀ (x2 : Int) (x3 : Int) (M : gM), wX5_pairWith_48 kd ln post a0 a1 k12 x2 x3 M → gW p l e (gRm 0 0) s m args below meth c D cy A H0 Q 5 kd ln rh 0 0 M 48 [(0, .ref (gad a0)), (1, .int (gI a1)), (2, .int (gI x2)), (3, .int (gI x3))] [] := by
    intro k12 hk12_ x2 x3 M h
    unfold wX5_pairWith_48 at h
    refine q_goto (tgt := 12) C (by decide) dX5_pairWith_48 ?_
    exact hk12_ x2 x3 M h
  have t12 : ∀ (n : Nat) (x2 : Int) (x3 : Int) (M : gM), wX5_pairWith_12 kd ln post a0 a1 n x2 x3 M → gW p l e (gRm 0 0) s m args below meth c D cy A H0 Q 5 kd ln rh 0 0 M 12 [(0, .ref (gad a0)), (1, .int (gI a1)), (2, .int (gI x2)), (3, .int (gI x3))] [] := by
    intro n
    induction n with
    | zero => intro x2 x3 M h; exact absurd h (by simp [wX5_pairWith_12])
    | succ n ih =>
      intro x2 x3 M h
      have hk12_ := ih
      rw [wX5_pairWith_12] at h
      refine q_iload_n C 2 rfl rfl dX5_pairWith_12 ?_
      refine q_iload_n C 3 rfl rfl dX5_pairWith_13 ?_
      obtain ⟨r5, h⟩ := h
      obtain ⟨r6, h⟩ := h
      refine q_icmp_ge (tgt := 51) C r5 r6 (by decide) dX5_pairWith_14 (fun b7 => ?_) (fun b7 => ?_)
      · have h := h.1 b7
        refine q_iload_n C 2 rfl rfl dX5_pairWith_51 ?_
        exact hret x2 M _ _ dX5_pairWith_52 r5 h
      · have h := h.2 b7
        refine q_iload_n C 2 rfl rfl dX5_pairWith_17 ?_
        refine q_iload_n C 3 rfl rfl dX5_pairWith_18 ?_
        refine q_iadd C dX5_pairWith_19 ?_
        refine q_iconst C dX5_pairWith_20 ?_
        refine q_iadd C dX5_pairWith_21 ?_
        refine q_iconst C dX5_pairWith_22 ?_
        obtain ⟨r8, h⟩ := h
        refine q_idiv C ⟨r8.1, r8.2, by decide, by decide⟩ dX5_pairWith_23 ?_
        refine q_topi (fun v9 ev9 => ?_)
        have h := h v9 ev9
        refine q_istore (lv' := [(4, .int (gI v9)), (0, .ref (gad a0)), (1, .int (gI a1)), (2, .int (gI x2)), (3, .int (gI x3))]) C (by decide) rfl dX5_pairWith_24 ?_
        refine q_aload_n C 1 rfl rfl dX5_pairWith_26 ?_
        obtain ⟨r10, h⟩ := h
        refine q_get (v := .ref (rh a0 9)) C fX5_54 hk0 (if_neg (Int.not_lt.mpr r10)) dX5_pairWith_27 (fun g11 => ?_)
        refine q_iload C 0 rfl dX5_pairWith_30 ?_
        obtain ⟨r12, h⟩ := h
        refine q_iald C hk0 rfl (fun _ q => q) r12 dX5_pairWith_32 (fun g13 => ?_)
        have h := h g13
        refine q_iload_n C 2 rfl rfl dX5_pairWith_33 ?_
        obtain ⟨r14, h⟩ := h
        refine q_icmp_gt (tgt := 43) C g13 r14 (by decide) dX5_pairWith_34 (fun b15 => ?_) (fun b15 => ?_)
        · have h := h.1 b15
          refine q_iload C 0 rfl dX5_pairWith_43 ?_
          refine q_iconst C dX5_pairWith_45 ?_
          refine q_isub C dX5_pairWith_46 ?_
          refine q_topi (fun v16 ev16 => ?_)
          have h := h v16 ev16
          refine q_istore_n (lv' := [(3, .int (gI v16)), (4, .int (gI v9)), (0, .ref (gad a0)), (1, .int (gI a1)), (2, .int (gI x2))]) C rfl (by decide) rfl dX5_pairWith_47 ?_
          refine q_lv (lv' := [(0, .ref (gad a0)), (1, .int (gI a1)), (2, .int (gI x2)), (3, .int (gI v16))]) [2, 3, 4, 0] rfl ?_
          exact t48 (wX5_pairWith_12 kd ln post a0 a1 n) hk12_ x2 v16 M h
        · have h := h.2 b15
          refine q_iload C 0 rfl dX5_pairWith_37 ?_
          refine q_istore_n (lv' := [(2, .int (gI v9)), (4, .int (gI v9)), (0, .ref (gad a0)), (1, .int (gI a1)), (3, .int (gI x3))]) C rfl (by decide) rfl dX5_pairWith_39 ?_
          refine q_goto (tgt := 48) C (by decide) dX5_pairWith_40 ?_
          refine q_lv (lv' := [(0, .ref (gad a0)), (1, .int (gI a1)), (2, .int (gI v9)), (3, .int (gI x3))]) [2, 3, 0, 4] rfl ?_
          exact t48 (wX5_pairWith_12 kd ln post a0 a1 n) hk12_ v9 x3 M h
  unfold wX5_pairWith at h
  refine q_iconst C dX5_pairWith_0 ?_
  refine q_istore_n (lv' := [(2, .int (gI 0)), (0, .ref (gad a0)), (1, .int (gI a1))]) C rfl (by decide) rfl dX5_pairWith_1 ?_
  refine q_aload_n C 1 rfl rfl dX5_pairWith_2 ?_
  refine q_get (v := gR (M a0 2 (-1))) C fX5_35 hk0 rfl dX5_pairWith_3 (fun g1 => ?_)
  obtain ⟨r2, h⟩ := h
  refine q_nn r2 (by decide) ?_
  refine q_get (v := .int (gI (M (M a0 2 (-1)) 0 (-1)))) C fX5_39 r2 rfl dX5_pairWith_6 (fun g3 => ?_)
  have h := h g3
  refine q_iconst C dX5_pairWith_9 ?_
  refine q_isub C dX5_pairWith_10 ?_
  refine q_topi (fun v4 ev4 => ?_)
  have h := h v4 ev4
  refine q_istore_n (lv' := [(3, .int (gI v4)), (2, .int (gI 0)), (0, .ref (gad a0)), (1, .int (gI a1))]) C rfl (by decide) rfl dX5_pairWith_11 ?_
  refine q_lv (lv' := [(0, .ref (gad a0)), (1, .int (gI a1)), (2, .int (gI 0)), (3, .int (gI v4))]) [2, 3, 1, 0] rfl ?_
  obtain ⟨j12, h⟩ := h
  exact t12  j12 0 v4 M h
set_option maxHeartbeats 4000000 in
set_option maxRecDepth 100000 in
theorem mX5_cellNumbered (l : Launch) (D : va_G) (cy : Nat → ClassId) (kd : gKd) (ln : gLn) (rh : gRh) (post : Int → gM → Prop) (a0 : Int) (a1 : Int) (M : gM) (hk0 : kd a0 = 5) (h : wX5_cellNumbered kd ln post a0 a1 M) : gMI l D cy yX5_cellNumbered cX5_cellNumbered 5 .int 1 24 [.ref (gad a0), .int (gI a1)] kd ln rh M post := by
  refine gMI_of (own := RX5) (by decide) rfl (Nat.le_of_ble_eq_true rfl) ?_
  intro p e s m args below meth c A H0 Q C hret
  have t66 : ∀ (k36 : Int → Int → Int → gM → Prop), (∀ (x2 : Int), ∀ (x3 : Int), ∀ (x4 : Int), ∀ (M : gM), k36 x2 x3 x4 M → gW p l e (gRm 1 24) s m args below meth c D cy A H0 Q 5 kd ln rh 0 0 M 36 [(0, .ref (gad a0)), (2, .int (gI x2)), (3, .int (gI x3)), (4, .int (gI x4))] []) → ∀ (x2 : Int) (x4 : Int) (y0 : Int) (y1 : Int) (M : gM), wX5_cellNumbered_66 kd ln post a0 a1 k36 x2 x4 y0 y1 M → gW p l e (gRm 1 24) s m args below meth c D cy A H0 Q 5 kd ln rh 0 0 M 66 [(0, .ref (gad a0)), (2, .int (gI x2)), (4, .int (gI x4))] [.int (gI y0), .int (gI y1)] := by
    intro k36 hk36_ x2 x4 y0 y1 M h
    unfold wX5_cellNumbered_66 at h
    refine q_isub C dX5_cellNumbered_66 ?_
    refine q_topi (fun v24 ev24 => ?_)
    have h := h v24 ev24
    refine q_istore_n (lv' := [(3, .int (gI v24)), (0, .ref (gad a0)), (2, .int (gI x2)), (4, .int (gI x4))]) C rfl (by decide) rfl dX5_cellNumbered_67 ?_
    refine q_iload_n C 0 rfl rfl dX5_cellNumbered_68 ?_
    obtain ⟨r25, h⟩ := h
    refine q_if_ge (tgt := 75) C r25 (by decide) dX5_cellNumbered_69 (fun b26 => ?_) (fun b26 => ?_)
    · have h := h.1 b26
      refine q_iinc (lv' := [(4, .int (gI (x4 + 1))), (3, .int (gI v24)), (0, .ref (gad a0)), (2, .int (gI x2))]) C 3 rfl (by decide) rfl dX5_cellNumbered_75 ?_
      refine q_goto (tgt := 36) C (by decide) dX5_cellNumbered_78 ?_
      refine q_lv (lv' := [(0, .ref (gad a0)), (2, .int (gI x2)), (3, .int (gI v24)), (4, .int (gI (x4 + 1)))]) [2, 3, 1, 0] rfl ?_
      exact hk36_ x2 v24 (x4 + 1) M h
    · have h := h.2 b26
      refine q_iload C 3 rfl dX5_cellNumbered_72 ?_
      obtain ⟨r27, h⟩ := h
      exact hret x4 M _ _ dX5_cellNumbered_74 r27 h
  have t36 : ∀ (n : Nat) (x2 : Int) (x3 : Int) (x4 : Int) (M : gM), wX5_cellNumbered_36 kd ln post a0 a1 n x2 x3 x4 M → gW p l e (gRm 1 24) s m args below meth c D cy A H0 Q 5 kd ln rh 0 0 M 36 [(0, .ref (gad a0)), (2, .int (gI x2)), (3, .int (gI x3)), (4, .int (gI x4))] [] := by
    intro n
    induction n with
    | zero => intro x2 x3 x4 M h; exact absurd h (by simp [wX5_cellNumbered_36])
    | succ n ih =>
      intro x2 x3 x4 M h
      have hk36_ := ih
      rw [wX5_cellNumbered_36] at h
      refine q_iload C 3 rfl dX5_cellNumbered_36 ?_
      refine q_iload_n C 1 rfl rfl dX5_cellNumbered_38 ?_
      refine q_iconst C dX5_cellNumbered_39 ?_
      refine q_iadd C dX5_cellNumbered_40 ?_
      refine q_sipush C (by decide) dX5_cellNumbered_41 ?_
      refine q_imul C dX5_cellNumbered_44 ?_
      obtain ⟨r16, h⟩ := h
      obtain ⟨r17, h⟩ := h
      refine q_icmp_ge (tgt := 81) C r16 r17 (by decide) dX5_cellNumbered_45 (fun b18 => ?_) (fun b18 => ?_)
      · have h := h.1 b18
        refine q_iconst C dX5_cellNumbered_81 ?_
        exact hret (-1) M _ _ dX5_cellNumbered_82 (show rng (-1) by decide) h
      · have h := h.2 b18
        refine q_iload_n C 2 rfl rfl dX5_cellNumbered_48 ?_
        refine q_aload_n C 0 rfl rfl dX5_cellNumbered_49 ?_
        obtain ⟨r19, h⟩ := h
        refine q_get (v := .ref (rh a0 1)) C fX5_44 hk0 (if_neg (Int.not_lt.mpr r19)) dX5_cellNumbered_50 (fun g20 => ?_)
        refine q_iload C 3 rfl dX5_cellNumbered_53 ?_
        obtain ⟨r21, h⟩ := h
        refine q_bald C hk0 rfl (fun _ q => q) r21 dX5_cellNumbered_55 (fun g22 => ?_)
        have h := h g22
        refine q_bipush C (by decide) dX5_cellNumbered_56 ?_
        refine q_icmp_eq (tgt := 65) C g22 (show rng (-2) by decide) (by decide) dX5_cellNumbered_58 (fun b23 => ?_) (fun b23 => ?_)
        · have h := h.1 b23
          refine q_iconst C dX5_cellNumbered_65 ?_
          refine q_lv (lv' := [(0, .ref (gad a0)), (2, .int (gI x2)), (4, .int (gI x4))]) [0, 1, 3] rfl ?_
          exact t66 (wX5_cellNumbered_36 kd ln post a0 a1 n) hk36_ x2 x4 0 x3 M h
        · have h := h.2 b23
          refine q_iconst C dX5_cellNumbered_61 ?_
          refine q_goto (tgt := 66) C (by decide) dX5_cellNumbered_62 ?_
          refine q_lv (lv' := [(0, .ref (gad a0)), (2, .int (gI x2)), (4, .int (gI x4))]) [0, 1, 3] rfl ?_
          exact t66 (wX5_cellNumbered_36 kd ln post a0 a1 n) hk36_ x2 x4 1 x3 M h
  unfold wX5_cellNumbered at h
  refine q_iload_n C 1 rfl rfl dX5_cellNumbered_0 ?_
  obtain ⟨r1, h⟩ := h
  refine q_if_lt (tgt := 12) C r1 (by decide) dX5_cellNumbered_1 (fun b2 => ?_) (fun b2 => ?_)
  · have h := h.1 b2
    refine q_iconst C dX5_cellNumbered_12 ?_
    exact hret (-1) M _ _ dX5_cellNumbered_13 (show rng (-1) by decide) h
  · have h := h.2 b2
    refine q_iload_n C 1 rfl rfl dX5_cellNumbered_4 ?_
    refine q_aload_n C 0 rfl rfl dX5_cellNumbered_5 ?_
    refine q_callVI (As := []) (st := [.int (gI a1)]) C vX5_101 kX5_size ⟨by decide, by decide⟩ ⟨by decide, by decide⟩ rfl hk0 ⟨_, _, rfl⟩ (by decide) rfl (Nat.le_of_ble_eq_true rfl) (mX5_size l D cy kd ln rh _ a0 M hk0 h) dX5_cellNumbered_6 (fun c4 M3 g5 h => ?_)
    have h := h g5
    refine q_icmp_lt (tgt := 14) C r1 g5 (by decide) dX5_cellNumbered_9 (fun b6 => ?_) (fun b6 => ?_)
    · have h := h.1 b6
      refine q_aload_n C 0 rfl rfl dX5_cellNumbered_14 ?_
      refine q_iload_n C 1 rfl rfl dX5_cellNumbered_15 ?_
      refine q_callVI (As := [.int (gI a1)]) (st := []) C vX5_104 kX5_pairWith ⟨by decide, by decide⟩ ⟨by decide, by decide⟩ rfl hk0 ⟨_, _, rfl⟩ (by decide) rfl (Nat.le_of_ble_eq_true rfl) (mX5_pairWith l D cy kd ln rh _ a0 a1 M3 hk0 h) dX5_cellNumbered_16 (fun c8 M7 g9 h => ?_)
      have h := h g9
      refine q_istore_n (lv' := [(2, .int (gI c8)), (0, .ref (gad a0)), (1, .int (gI a1))]) C rfl (by decide) rfl dX5_cellNumbered_19 ?_
      refine q_iload_n C 2 rfl rfl dX5_cellNumbered_20 ?_
      refine q_aload_n C 1 rfl rfl dX5_cellNumbered_21 ?_
      obtain ⟨r10, h⟩ := h
      refine q_get (v := .ref (rh a0 9)) C fX5_54 hk0 (if_neg (Int.not_lt.mpr r10)) dX5_cellNumbered_22 (fun g11 => ?_)
      refine q_iload_n C 0 rfl rfl dX5_cellNumbered_25 ?_
      obtain ⟨r12, h⟩ := h
      refine q_iald C hk0 rfl (fun _ q => q) r12 dX5_cellNumbered_26 (fun g13 => ?_)
      have h := h g13
      refine q_isub C dX5_cellNumbered_27 ?_
      refine q_topi (fun v14 ev14 => ?_)
      have h := h v14 ev14
      refine q_istore_n (lv' := [(3, .int (gI v14)), (2, .int (gI c8)), (0, .ref (gad a0)), (1, .int (gI a1))]) C rfl (by decide) rfl dX5_cellNumbered_28 ?_
      refine q_iload_n C 1 rfl rfl dX5_cellNumbered_29 ?_
      refine q_sipush C (by decide) dX5_cellNumbered_30 ?_
      refine q_imul C dX5_cellNumbered_33 ?_
      refine q_topi (fun v15 ev15 => ?_)
      have h := h v15 ev15
      refine q_istore (lv' := [(4, .int (gI v15)), (3, .int (gI v14)), (2, .int (gI c8)), (0, .ref (gad a0)), (1, .int (gI a1))]) C (by decide) rfl dX5_cellNumbered_34 ?_
      refine q_lv (lv' := [(0, .ref (gad a0)), (2, .int (gI c8)), (3, .int (gI v14)), (4, .int (gI v15))]) [3, 2, 1, 0] rfl ?_
      obtain ⟨j36, h⟩ := h
      exact t36  j36 c8 v14 v15 M7 h
    · have h := h.2 b6
      refine q_iconst C dX5_cellNumbered_12 ?_
      exact hret (-1) M3 _ _ dX5_cellNumbered_13 (show rng (-1) by decide) h
set_option maxHeartbeats 4000000 in
set_option maxRecDepth 100000 in
theorem mX5_howManyAt (l : Launch) (D : va_G) (cy : Nat → ClassId) (kd : gKd) (ln : gLn) (rh : gRh) (post : Int → gM → Prop) (a0 : Int) (a1 : Int) (a2 : Int) (M : gM) (hk0 : kd a0 = 5) (h : wX5_howManyAt kd ln post a0 a1 a2 M) : gMI l D cy yX5_howManyAt cX5_howManyAt 3 .int 0 0 [.ref (gad a0), .int (gI a1), .int (gI a2)] kd ln rh M post := by
  refine gMI_of (own := RX5) (by decide) rfl (Nat.le_of_ble_eq_true rfl) ?_
  intro p e s m args below meth c A H0 Q C hret
  have t10 : ∀ (M : gM), wX5_howManyAt_10 kd ln post a0 a1 a2  M → gW p l e (gRm 0 0) s m args below meth c D cy A H0 Q 3 kd ln rh 0 0 M 10 [] [] := by
    intro   M h
    unfold wX5_howManyAt_10 at h
    refine q_iconst C dX5_howManyAt_10 ?_
    refine q_goto (tgt := 24) C (by decide) dX5_howManyAt_11 ?_
    exact hret 0 M _ _ dX5_howManyAt_24 (show rng 0 by decide) h
  unfold wX5_howManyAt at h
  refine q_iload_n C 2 rfl rfl dX5_howManyAt_0 ?_
  obtain ⟨r1, h⟩ := h
  refine q_if_lt (tgt := 10) C r1 (by decide) dX5_howManyAt_1 (fun b2 => ?_) (fun b2 => ?_)
  · have h := h.1 b2
    refine q_lv (lv' := []) [] rfl ?_
    exact t10  M h
  · have h := h.2 b2
    refine q_iload_n C 2 rfl rfl dX5_howManyAt_4 ?_
    refine q_bipush C (by decide) dX5_howManyAt_5 ?_
    refine q_icmp_le (tgt := 14) C r1 (show rng 126 by decide) (by decide) dX5_howManyAt_7 (fun b3 => ?_) (fun b3 => ?_)
    · have h := h.1 b3
      refine q_aload_n C 0 rfl rfl dX5_howManyAt_14 ?_
      obtain ⟨r4, h⟩ := h
      refine q_get (v := .ref (rh a0 10)) C fX5_24 hk0 (if_neg (Int.not_lt.mpr r4)) dX5_howManyAt_15 (fun g5 => ?_)
      refine q_iconst C dX5_howManyAt_18 ?_
      refine q_iload_n C 2 rfl rfl dX5_howManyAt_19 ?_
      refine q_imul C dX5_howManyAt_20 ?_
      refine q_iload_n C 1 rfl rfl dX5_howManyAt_21 ?_
      refine q_iadd C dX5_howManyAt_22 ?_
      obtain ⟨r6, h⟩ := h
      refine q_iald C hk0 rfl (fun _ q => q) r6 dX5_howManyAt_23 (fun g7 => ?_)
      have h := h g7
      exact hret (M a0 10 ((2 * a2) + a1)) M _ _ dX5_howManyAt_24 g7 h
    · have h := h.2 b3
      refine q_lv (lv' := []) [] rfl ?_
      exact t10  M h
set_option maxHeartbeats 4000000 in
set_option maxRecDepth 100000 in
theorem mX5_lay (l : Launch) (D : va_G) (cy : Nat → ClassId) (kd : gKd) (ln : gLn) (rh : gRh) (post : Int → gM → Prop) (a0 : Int) (a1 : Int) (M : gM) (hk0 : kd a0 = 5) (h : wX5_lay kd ln post a0 a1 M) : gMI l D cy yX5_lay cX5_lay 8 .int 3 72 [.ref (gad a0), .int (gI a1)] kd ln rh M post := by
  refine gMI_of (own := RX5) (by decide) rfl (Nat.le_of_ble_eq_true rfl) ?_
  intro p e s m args below meth c A H0 Q C hret
  have t143 : ∀ (k26 : Int → Int → Int → Int → gM → Prop), (∀ (x2 : Int), ∀ (x3 : Int), ∀ (x4 : Int), ∀ (x5 : Int), ∀ (M : gM), k26 x2 x3 x4 x5 M → gW p l e (gRm 3 72) s m args below meth c D cy A H0 Q 8 kd ln rh 0 0 M 26 [(0, .ref (gad a0)), (1, .int (gI a1)), (2, .int (gI x2)), (3, .int (gI x3)), (4, .int (gI x4)), (5, .int (gI x5))] []) → ∀ (x2 : Int) (x3 : Int) (x4 : Int) (x5 : Int) (M : gM), wX5_lay_143 kd ln post a0 a1 k26 x2 x3 x4 x5 M → gW p l e (gRm 3 72) s m args below meth c D cy A H0 Q 8 kd ln rh 0 0 M 143 [(0, .ref (gad a0)), (1, .int (gI a1)), (2, .int (gI x2)), (3, .int (gI x3)), (4, .int (gI x4)), (5, .int (gI x5))] [] := by
    intro k26 hk26_ x2 x3 x4 x5 M h
    unfold wX5_lay_143 at h
    refine q_iinc (lv' := [(5, .int (gI (x5 + 1))), (0, .ref (gad a0)), (1, .int (gI a1)), (2, .int (gI x2)), (3, .int (gI x3)), (4, .int (gI x4))]) C 5 rfl (by decide) rfl dX5_lay_143 ?_
    refine q_goto (tgt := 26) C (by decide) dX5_lay_146 ?_
    refine q_lv (lv' := [(0, .ref (gad a0)), (1, .int (gI a1)), (2, .int (gI x2)), (3, .int (gI x3)), (4, .int (gI x4)), (5, .int (gI (x5 + 1)))]) [1, 2, 3, 4, 5, 0] rfl ?_
    exact hk26_ x2 x3 x4 (x5 + 1) M h
  have t69 : ∀ (k26 : Int → Int → Int → Int → gM → Prop), (∀ (x2 : Int), ∀ (x3 : Int), ∀ (x4 : Int), ∀ (x5 : Int), ∀ (M : gM), k26 x2 x3 x4 x5 M → gW p l e (gRm 3 72) s m args below meth c D cy A H0 Q 8 kd ln rh 0 0 M 26 [(0, .ref (gad a0)), (1, .int (gI a1)), (2, .int (gI x2)), (3, .int (gI x3)), (4, .int (gI x4)), (5, .int (gI x5))] []) → ∀ (x2 : Int) (x3 : Int) (x4 : Int) (x5 : Int) (x6 : Int) (y0 : Int) (M : gM), wX5_lay_69 kd ln post a0 a1 k26 x2 x3 x4 x5 x6 y0 M → gW p l e (gRm 3 72) s m args below meth c D cy A H0 Q 8 kd ln rh 0 0 M 69 [(0, .ref (gad a0)), (1, .int (gI a1)), (2, .int (gI x2)), (3, .int (gI x3)), (4, .int (gI x4)), (5, .int (gI x5)), (6, .int (gI x6))] [.int (gI y0)] := by
    intro k26 hk26_ x2 x3 x4 x5 x6 y0 M h
    unfold wX5_lay_69 at h
    refine q_istore (lv' := [(7, .int (gI y0)), (0, .ref (gad a0)), (1, .int (gI a1)), (2, .int (gI x2)), (3, .int (gI x3)), (4, .int (gI x4)), (5, .int (gI x5)), (6, .int (gI x6))]) C (by decide) rfl dX5_lay_69 ?_
    refine q_iload C 0 rfl dX5_lay_71 ?_
    obtain ⟨r29, h⟩ := h
    refine q_if_eq (tgt := 143) C r29 (by decide) dX5_lay_73 (fun b30 => ?_) (fun b30 => ?_)
    · have h := h.1 b30
      refine q_lv (lv' := [(0, .ref (gad a0)), (1, .int (gI a1)), (2, .int (gI x2)), (3, .int (gI x3)), (4, .int (gI x4)), (5, .int (gI x5))]) [1, 2, 3, 4, 5, 6] rfl ?_
      exact t143 k26 hk26_ x2 x3 x4 x5 M h
    · have h := h.2 b30
      refine q_aload_n C 1 rfl rfl dX5_lay_76 ?_
      refine q_get (v := gR (M a0 8 (-1))) C fX5_27 hk0 rfl dX5_lay_77 (fun g31 => ?_)
      obtain ⟨r32, h⟩ := h
      refine q_nn r32 (by decide) ?_
      refine q_aload_n C 1 rfl rfl dX5_lay_80 ?_
      refine q_get (v := .int (gI (M a0 0 (-1)))) C fX5_31 hk0 rfl dX5_lay_81 (fun g33 => ?_)
      have h := h g33
      refine q_iload_n C 3 rfl rfl dX5_lay_84 ?_
      refine q_iload_n C 4 rfl rfl dX5_lay_85 ?_
      refine q_iload C 6 rfl dX5_lay_86 ?_
      refine q_iconst C dX5_lay_88 ?_
      refine q_callVI (As := [.int (gI (M a0 0 (-1))), .int (gI x2), .int (gI x3), .int (gI x5), .int (gI 1)]) (st := []) C vX5_80 kX0_allows ⟨by decide, by decide⟩ ⟨by decide, by decide⟩ rfl r32 ⟨_, _, rfl⟩ (by decide) rfl (Nat.le_of_ble_eq_true rfl) (mX0_allows l D cy kd ln rh _ (M a0 8 (-1)) (M a0 0 (-1)) x2 x3 x5 1 M r32 h) dX5_lay_89 (fun c35 M34 g36 h => ?_)
      have h := h g36
      refine q_if_ne (tgt := 98) C g36 (by decide) dX5_lay_92 (fun b37 => ?_) (fun b37 => ?_)
      · have h := h.1 b37
        refine q_aload_n C 1 rfl rfl dX5_lay_98 ?_
        obtain ⟨r38, h⟩ := h
        refine q_get (v := .ref (rh a0 1)) C fX5_44 hk0 (if_neg (Int.not_lt.mpr r38)) dX5_lay_99 (fun g39 => ?_)
        refine q_iload C 7 rfl dX5_lay_102 ?_
        refine q_iconst C dX5_lay_104 ?_
        obtain ⟨r40, h⟩ := h
        refine q_bast C hk0 rfl (rng8 (show (-128 : Int) ≤ (-1) ∧ ((-1) : Int) < 128 by decide)) (show (-128 : Int) ≤ (-1) ∧ ((-1) : Int) < 128 by decide) r40 dX5_lay_105 ?_
        refine q_iinc (lv' := [(4, .int (gI (x4 + 1))), (7, .int (gI y0)), (0, .ref (gad a0)), (1, .int (gI a1)), (2, .int (gI x2)), (3, .int (gI x3)), (5, .int (gI x5)), (6, .int (gI x6))]) C 5 rfl (by decide) rfl dX5_lay_106 ?_
        refine q_aload_n C 2 rfl rfl dX5_lay_109 ?_
        refine q_get (v := gR ((gu M34 a0 1 x6 (-1)) a0 8 (-1))) C fX5_27 hk0 rfl dX5_lay_110 (fun g41 => ?_)
        obtain ⟨r42, h⟩ := h
        refine q_nn r42 (by decide) ?_
        refine q_aload_n C 2 rfl rfl dX5_lay_113 ?_
        refine q_get (v := .int (gI ((gu M34 a0 1 x6 (-1)) a0 0 (-1)))) C fX5_31 hk0 rfl dX5_lay_114 (fun g43 => ?_)
        have h := h g43
        refine q_iload_n C 4 rfl rfl dX5_lay_117 ?_
        refine q_iload_n C 5 rfl rfl dX5_lay_118 ?_
        refine q_iload C 6 rfl dX5_lay_119 ?_
        refine q_callVI (As := [.int (gI ((gu M34 a0 1 x6 (-1)) a0 0 (-1))), .int (gI x2), .int (gI x3), .int (gI x5)]) (st := []) C vX5_84 kX0_attacks ⟨by decide, by decide⟩ ⟨by decide, by decide⟩ rfl r42 ⟨_, _, rfl⟩ (by decide) rfl (Nat.le_of_ble_eq_true rfl) (mX0_attacks l D cy kd ln rh _ ((gu M34 a0 1 x6 (-1)) a0 8 (-1)) ((gu M34 a0 1 x6 (-1)) a0 0 (-1)) x2 x3 x5 (gu M34 a0 1 x6 (-1)) r42 h) dX5_lay_121 (fun c45 M44 g46 h => ?_)
        have h := h g46
        refine q_if_ne (tgt := 143) C g46 (by decide) dX5_lay_124 (fun b47 => ?_) (fun b47 => ?_)
        · have h := h.1 b47
          refine q_lv (lv' := [(0, .ref (gad a0)), (1, .int (gI a1)), (2, .int (gI x2)), (3, .int (gI x3)), (4, .int (gI (x4 + 1))), (5, .int (gI x5))]) [2, 3, 4, 5, 0, 6] rfl ?_
          exact t143 k26 hk26_ x2 x3 (x4 + 1) x5 M44 h
        · have h := h.2 b47
          refine q_aload_n C 2 rfl rfl dX5_lay_127 ?_
          refine q_get (v := .ref (rh a0 1)) C fX5_44 hk0 (if_neg (Int.not_lt.mpr r38)) dX5_lay_128 (fun g48 => ?_)
          refine q_iload_n C 3 rfl rfl dX5_lay_131 ?_
          refine q_iload C 6 rfl dX5_lay_132 ?_
          refine q_iconst C dX5_lay_134 ?_
          refine q_callSI (As := [.int (gI a1), .int (gI x5), .int (gI 0)]) (st := [.ref (rh a0 1)]) C vX5_72 kX5_cellAt ⟨by decide, by decide⟩ ⟨by decide, by decide⟩ rfl rfl (Nat.le_of_ble_eq_true rfl) (mX5_cellAt l D cy kd ln rh _ a1 x5 0 M44  h) dX5_lay_135 (fun c50 M49 g51 h => ?_)
          have h := h g51
          refine q_iconst C dX5_lay_138 ?_
          obtain ⟨r52, h⟩ := h
          refine q_bast C hk0 rfl (rng8 (show (-128 : Int) ≤ (-1) ∧ ((-1) : Int) < 128 by decide)) (show (-128 : Int) ≤ (-1) ∧ ((-1) : Int) < 128 by decide) r52 dX5_lay_139 ?_
          refine q_iinc (lv' := [(4, .int (gI ((x4 + 1) + 1))), (7, .int (gI y0)), (0, .ref (gad a0)), (1, .int (gI a1)), (2, .int (gI x2)), (3, .int (gI x3)), (5, .int (gI x5)), (6, .int (gI x6))]) C 0 rfl (by decide) rfl dX5_lay_140 ?_
          refine q_lv (lv' := [(0, .ref (gad a0)), (1, .int (gI a1)), (2, .int (gI x2)), (3, .int (gI x3)), (4, .int (gI ((x4 + 1) + 1))), (5, .int (gI x5))]) [2, 3, 4, 5, 0, 6] rfl ?_
          exact t143 k26 hk26_ x2 x3 ((x4 + 1) + 1) x5 (gu M49 a0 1 c50 (-1)) h
      · have h := h.2 b37
        refine q_goto (tgt := 143) C (by decide) dX5_lay_95 ?_
        refine q_lv (lv' := [(0, .ref (gad a0)), (1, .int (gI a1)), (2, .int (gI x2)), (3, .int (gI x3)), (4, .int (gI x4)), (5, .int (gI x5))]) [1, 2, 3, 4, 5, 6] rfl ?_
        exact t143 k26 hk26_ x2 x3 x4 x5 M34 h
  have t26 : ∀ (n : Nat) (x2 : Int) (x3 : Int) (x4 : Int) (x5 : Int) (M : gM), wX5_lay_26 kd ln post a0 a1 n x2 x3 x4 x5 M → gW p l e (gRm 3 72) s m args below meth c D cy A H0 Q 8 kd ln rh 0 0 M 26 [(0, .ref (gad a0)), (1, .int (gI a1)), (2, .int (gI x2)), (3, .int (gI x3)), (4, .int (gI x4)), (5, .int (gI x5))] [] := by
    intro n
    induction n with
    | zero => intro x2 x3 x4 x5 M h; exact absurd h (by simp [wX5_lay_26])
    | succ n ih =>
      intro x2 x3 x4 x5 M h
      have hk26_ := ih
      rw [wX5_lay_26] at h
      refine q_iload C 5 rfl dX5_lay_26 ?_
      refine q_aload_n C 0 rfl rfl dX5_lay_28 ?_
      refine q_get (v := gR (M a0 8 (-1))) C fX5_27 hk0 rfl dX5_lay_29 (fun g14 => ?_)
      obtain ⟨r15, h⟩ := h
      refine q_nn r15 (by decide) ?_
      refine q_get (v := .int (gI (M (M a0 8 (-1)) 1 (-1)))) C fX5_67 r15 rfl dX5_lay_32 (fun g16 => ?_)
      have h := h g16
      obtain ⟨r17, h⟩ := h
      refine q_icmp_ge (tgt := 149) C r17 g16 (by decide) dX5_lay_35 (fun b18 => ?_) (fun b18 => ?_)
      · have h := h.1 b18
        refine q_iload C 4 rfl dX5_lay_149 ?_
        obtain ⟨r19, h⟩ := h
        exact hret x4 M _ _ dX5_lay_151 r19 h
      · have h := h.2 b18
        refine q_iload_n C 1 rfl rfl dX5_lay_38 ?_
        refine q_iload C 5 rfl dX5_lay_39 ?_
        refine q_iconst C dX5_lay_41 ?_
        refine q_callSI (As := [.int (gI a1), .int (gI x5), .int (gI 1)]) (st := []) C vX5_72 kX5_cellAt ⟨by decide, by decide⟩ ⟨by decide, by decide⟩ rfl rfl (Nat.le_of_ble_eq_true rfl) (mX5_cellAt l D cy kd ln rh _ a1 x5 1 M  h) dX5_lay_42 (fun c21 M20 g22 h => ?_)
        have h := h g22
        refine q_istore (lv' := [(6, .int (gI c21)), (0, .ref (gad a0)), (1, .int (gI a1)), (2, .int (gI x2)), (3, .int (gI x3)), (4, .int (gI x4)), (5, .int (gI x5))]) C (by decide) rfl dX5_lay_45 ?_
        refine q_aload_n C 1 rfl rfl dX5_lay_47 ?_
        refine q_get (v := gR (M20 a0 2 (-1))) C fX5_35 hk0 rfl dX5_lay_48 (fun g23 => ?_)
        obtain ⟨r24, h⟩ := h
        refine q_nn r24 (by decide) ?_
        refine q_iload_n C 3 rfl rfl dX5_lay_51 ?_
        refine q_iload_n C 4 rfl rfl dX5_lay_52 ?_
        refine q_iload C 6 rfl dX5_lay_53 ?_
        refine q_iconst C dX5_lay_55 ?_
        refine q_callVI (As := [.int (gI x2), .int (gI x3), .int (gI x5), .int (gI 1)]) (st := []) C vX5_76 kX2_cellOf ⟨by decide, by decide⟩ ⟨by decide, by decide⟩ rfl r24 ⟨_, _, rfl⟩ (by decide) rfl (Nat.le_of_ble_eq_true rfl) (mX2_cellOf l D cy kd ln rh _ (M20 a0 2 (-1)) x2 x3 x5 1 M20 r24 h) dX5_lay_56 (fun c26 M25 g27 h => ?_)
        have h := h g27
        refine q_iload C 0 rfl dX5_lay_59 ?_
        refine q_icmp_ne (tgt := 68) C g27 g22 (by decide) dX5_lay_61 (fun b28 => ?_) (fun b28 => ?_)
        · have h := h.1 b28
          refine q_iconst C dX5_lay_68 ?_
          refine q_lv (lv' := [(0, .ref (gad a0)), (1, .int (gI a1)), (2, .int (gI x2)), (3, .int (gI x3)), (4, .int (gI x4)), (5, .int (gI x5)), (6, .int (gI c21))]) [1, 2, 3, 4, 5, 6, 0] rfl ?_
          exact t69 (wX5_lay_26 kd ln post a0 a1 n) hk26_ x2 x3 x4 x5 c21 0 M25 h
        · have h := h.2 b28
          refine q_iconst C dX5_lay_64 ?_
          refine q_goto (tgt := 69) C (by decide) dX5_lay_65 ?_
          refine q_lv (lv' := [(0, .ref (gad a0)), (1, .int (gI a1)), (2, .int (gI x2)), (3, .int (gI x3)), (4, .int (gI x4)), (5, .int (gI x5)), (6, .int (gI c21))]) [1, 2, 3, 4, 5, 6, 0] rfl ?_
          exact t69 (wX5_lay_26 kd ln post a0 a1 n) hk26_ x2 x3 x4 x5 c21 1 M25 h
  unfold wX5_lay at h
  refine q_aload_n C 0 rfl rfl dX5_lay_0 ?_
  refine q_get (v := gR (M a0 2 (-1))) C fX5_35 hk0 rfl dX5_lay_1 (fun g1 => ?_)
  obtain ⟨r2, h⟩ := h
  refine q_nn r2 (by decide) ?_
  obtain ⟨r3, h⟩ := h
  refine q_get (v := .ref (rh (M a0 2 (-1)) 1)) C fX5_61 r2 (if_neg (Int.not_lt.mpr r3)) dX5_lay_4 (fun g4 => ?_)
  refine q_iload_n C 1 rfl rfl dX5_lay_7 ?_
  obtain ⟨r5, h⟩ := h
  refine q_iald C r2 rfl (fun _ q => q) r5 dX5_lay_8 (fun g6 => ?_)
  have h := h g6
  refine q_topi (fun v7 ev7 => ?_)
  have h := h v7 ev7
  have gv7 : rng v7 := by rw [ev7]; exact g6
  refine q_istore_n (lv' := [(2, .int (gI v7)), (0, .ref (gad a0)), (1, .int (gI a1))]) C rfl (by decide) rfl dX5_lay_9 ?_
  refine q_aload_n C 1 rfl rfl dX5_lay_10 ?_
  refine q_get (v := gR (M a0 2 (-1))) C fX5_35 hk0 rfl dX5_lay_11 (fun g8 => ?_)
  refine q_nn r2 (by decide) ?_
  obtain ⟨r9, h⟩ := h
  refine q_get (v := .ref (rh (M a0 2 (-1)) 2)) C fX5_64 r2 (if_neg (Int.not_lt.mpr r9)) dX5_lay_14 (fun g10 => ?_)
  refine q_iload_n C 2 rfl rfl dX5_lay_17 ?_
  obtain ⟨r11, h⟩ := h
  refine q_iald C r2 rfl (fun _ q => q) r11 dX5_lay_18 (fun g12 => ?_)
  have h := h g12
  refine q_topi (fun v13 ev13 => ?_)
  have h := h v13 ev13
  have gv13 : rng v13 := by rw [ev13]; exact g12
  refine q_istore_n (lv' := [(3, .int (gI v13)), (2, .int (gI v7)), (0, .ref (gad a0)), (1, .int (gI a1))]) C rfl (by decide) rfl dX5_lay_19 ?_
  refine q_iconst C dX5_lay_20 ?_
  refine q_istore (lv' := [(4, .int (gI 0)), (3, .int (gI v13)), (2, .int (gI v7)), (0, .ref (gad a0)), (1, .int (gI a1))]) C (by decide) rfl dX5_lay_21 ?_
  refine q_iconst C dX5_lay_23 ?_
  refine q_istore (lv' := [(5, .int (gI 0)), (4, .int (gI 0)), (3, .int (gI v13)), (2, .int (gI v7)), (0, .ref (gad a0)), (1, .int (gI a1))]) C (by decide) rfl dX5_lay_24 ?_
  refine q_lv (lv' := [(0, .ref (gad a0)), (1, .int (gI a1)), (2, .int (gI v7)), (3, .int (gI v13)), (4, .int (gI 0)), (5, .int (gI 0))]) [4, 5, 3, 2, 1, 0] rfl ?_
  obtain ⟨j26, h⟩ := h
  exact t26  j26 v7 v13 0 0 M h
