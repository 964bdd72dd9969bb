set_option maxHeartbeats 4000000 in
set_option maxRecDepth 100000 in
theorem mX6_gatherBlack (l : Launch) (D : va_G) (cy : Nat → ClassId) (kd : gKd) (ln : gLn) (rh : gRh) (post : gM → Prop) (a0 : Int) (a1 : Int) (a2 : Int) (M : gM) (hk0 : kd a0 = 6) (hk1 : kd a1 = 1) (hk2 : kd a2 = 4) (h : wX6_gatherBlack kd ln post a0 a1 a2 M) : gMV l D cy yX6_gatherBlack cX6_gatherBlack 9 4 100 [.ref (gad a0), .ref (gad a1), .ref (gad a2)] kd ln rh M post := by
  refine gMV_of (own := RX6) (by decide) rfl (Nat.le_of_ble_eq_true rfl) ?_
  intro p e s m args below meth c A H0 Q C hret
  have t73 : ∀ (k27 : BitVec 64 → gM → Prop), (∀ (x5 : BitVec 64), ∀ (M : gM), k27 x5 M → gW p l e (gRm 4 100) s m args below meth c D cy A H0 Q 9 kd ln rh 0 0 M 27 [(0, .ref (gad a0)), (1, .ref (gad a1)), (2, .ref (gad a2)), (5, .long (gL x5))] []) → ∀ (x5 : BitVec 64) (x7 : Int) (y0 : Int) (M : gM), wX6_gatherBlack_73 kd ln post a0 a1 a2 k27 x5 x7 y0 M → gW p l e (gRm 4 100) s m args below meth c D cy A H0 Q 9 kd ln rh 0 0 M 73 [(0, .ref (gad a0)), (1, .ref (gad a1)), (2, .ref (gad a2)), (5, .long (gL x5)), (7, .int (gI x7))] [.int (gI y0)] := by
    intro k27 hk27_ x5 x7 y0 M h
    unfold wX6_gatherBlack_73 at h
    refine q_istore (lv' := [(8, .int (gI y0)), (0, .ref (gad a0)), (1, .ref (gad a1)), (2, .ref (gad a2)), (5, .long (gL x5)), (7, .int (gI x7))]) C (by decide) rfl dX6_gatherBlack_73 ?_
    refine q_aload_n C 2 rfl rfl dX6_gatherBlack_75 ?_
    refine q_aload_n C 3 rfl rfl dX6_gatherBlack_76 ?_
    refine q_get (v := .int (gI (M a2 2 (-1)))) C fX6_226 hk2 rfl dX6_gatherBlack_77 (fun g22 => ?_)
    have h := h g22
    refine q_iload C 5 rfl dX6_gatherBlack_80 ?_
    refine q_iconst C dX6_gatherBlack_82 ?_
    refine q_iload C 0 rfl dX6_gatherBlack_83 ?_
    refine q_callVV (As := [.int (gI (M a2 2 (-1))), .int (gI x7), .int (gI (-1)), .int (gI y0)]) (st := []) C vX6_236 kX1_add ⟨Nat.le_of_ble_eq_true rfl, Nat.le_of_ble_eq_true rfl⟩ ⟨Nat.le_of_ble_eq_true rfl, Nat.le_of_ble_eq_true rfl⟩ rfl hk1 ⟨_, _, rfl⟩ (by decide) rfl (Nat.le_of_ble_eq_true rfl) (mX1_add l D cy kd ln rh _ a1 (M a2 2 (-1)) x7 (-1) y0 M hk1 h) dX6_gatherBlack_85 (fun M23 h => ?_)
    refine q_lload C 4 rfl dX6_gatherBlack_88 ?_
    refine q_lload C 4 rfl dX6_gatherBlack_90 ?_
    refine q_lconst (b := 1) C rfl dX6_gatherBlack_92 ?_
    refine q_lsub C dX6_gatherBlack_93 ?_
    refine q_land C dX6_gatherBlack_94 ?_
    refine q_topl (fun v26 ev26 => ?_)
    have h := h v26 ev26
    refine q_lstore (lv' := [(5, .long (gL v26)), (8, .int (gI y0)), (0, .ref (gad a0)), (1, .ref (gad a1)), (2, .ref (gad a2)), (7, .int (gI x7))]) C (by decide) rfl dX6_gatherBlack_95 ?_
    refine q_goto (tgt := 27) C (by decide) dX6_gatherBlack_97 ?_
    refine q_lv (lv' := [(0, .ref (gad a0)), (1, .ref (gad a1)), (2, .ref (gad a2)), (5, .long (gL v26))]) [2, 3, 4, 0] rfl ?_
    exact hk27_ v26 M23 h
  have t27 : ∀ (n : Nat) (x5 : BitVec 64) (M : gM), wX6_gatherBlack_27 kd ln post a0 a1 a2 n x5 M → gW p l e (gRm 4 100) s m args below meth c D cy A H0 Q 9 kd ln rh 0 0 M 27 [(0, .ref (gad a0)), (1, .ref (gad a1)), (2, .ref (gad a2)), (5, .long (gL x5))] [] := by
    intro n
    induction n with
    | zero => intro x5 M h; exact absurd h (by simp [wX6_gatherBlack_27])
    | succ n ih =>
      intro x5 M h
      have hk27_ := ih
      rw [wX6_gatherBlack_27] at h
      refine q_lload C 3 rfl dX6_gatherBlack_27 ?_
      refine q_lconst (b := 0) C rfl dX6_gatherBlack_29 ?_
      refine q_lcmp C dX6_gatherBlack_30 ?_
      refine q_if_eq (tgt := 100) C (rng_of _) (by decide) dX6_gatherBlack_31 (fun b10 => ?_) (fun b10 => ?_)
      · have h := h.1 b10
        exact hret M _ _ dX6_gatherBlack_100 h
      · have h := h.2 b10
        refine q_lload C 3 rfl dX6_gatherBlack_34 ?_
        refine q_callSI (As := [.long (gL x5)]) (st := []) C vX6_229 kX6_lowest ⟨Nat.le_of_ble_eq_true rfl, Nat.le_of_ble_eq_true rfl⟩ ⟨Nat.le_of_ble_eq_true rfl, Nat.le_of_ble_eq_true rfl⟩ rfl rfl (Nat.le_of_ble_eq_true rfl) (mX6_lowest l D cy kd ln rh _ x5 M  h) dX6_gatherBlack_36 (fun c12 M11 g13 h => ?_)
        have h := h g13
        refine q_istore (lv' := [(7, .int (gI c12)), (0, .ref (gad a0)), (1, .ref (gad a1)), (2, .ref (gad a2)), (5, .long (gL x5))]) C (by decide) rfl dX6_gatherBlack_39 ?_
        refine q_iload C 0 rfl dX6_gatherBlack_41 ?_
        refine q_aload_n C 3 rfl rfl dX6_gatherBlack_43 ?_
        refine q_get (v := .int (gI (M11 a2 3 (-1)))) C fX6_214 hk2 rfl dX6_gatherBlack_44 (fun g14 => ?_)
        have h := h g14
        refine q_icmp_ne (tgt := 54) C g13 g14 (by decide) dX6_gatherBlack_47 (fun b15 => ?_) (fun b15 => ?_)
        · have h := h.1 b15
          refine q_aload_n C 1 rfl rfl dX6_gatherBlack_54 ?_
          refine q_aload_n C 3 rfl rfl dX6_gatherBlack_55 ?_
          refine q_get (v := .int (gI (M11 a2 0 (-1)))) C fX6_223 hk2 rfl dX6_gatherBlack_56 (fun g16 => ?_)
          have h := h g16
          refine q_aload_n C 3 rfl rfl dX6_gatherBlack_59 ?_
          refine q_get (v := .int (gI (M11 a2 1 (-1)))) C fX6_211 hk2 rfl dX6_gatherBlack_60 (fun g17 => ?_)
          have h := h g17
          refine q_iload C 0 rfl dX6_gatherBlack_63 ?_
          refine q_aload_n C 3 rfl rfl dX6_gatherBlack_65 ?_
          refine q_get (v := .int (gI (M11 a2 3 (-1)))) C fX6_214 hk2 rfl dX6_gatherBlack_66 (fun g18 => ?_)
          refine q_iconst C dX6_gatherBlack_69 ?_
          refine q_callVI (As := [.int (gI (M11 a2 0 (-1))), .int (gI (M11 a2 1 (-1))), .int (gI c12), .int (gI (M11 a2 3 (-1))), .int (gI 0)]) (st := []) C vX6_232 kX6_lookUp ⟨Nat.le_of_ble_eq_true rfl, Nat.le_of_ble_eq_true rfl⟩ ⟨Nat.le_of_ble_eq_true rfl, Nat.le_of_ble_eq_true rfl⟩ rfl hk0 ⟨_, _, rfl⟩ (by decide) rfl (Nat.le_of_ble_eq_true rfl) (mX6_lookUp l D cy kd ln rh _ a0 (M11 a2 0 (-1)) (M11 a2 1 (-1)) c12 (M11 a2 3 (-1)) 0 M11 hk0 h) dX6_gatherBlack_70 (fun c20 M19 g21 h => ?_)
          have h := h g21
          refine q_lv (lv' := [(0, .ref (gad a0)), (1, .ref (gad a1)), (2, .ref (gad a2)), (5, .long (gL x5)), (7, .int (gI c12))]) [1, 2, 3, 4, 0] rfl ?_
          exact t73 (wX6_gatherBlack_27 kd ln post a0 a1 a2 n) hk27_ x5 c12 c20 M19 h
        · have h := h.2 b15
          refine q_iconst C dX6_gatherBlack_50 ?_
          refine q_goto (tgt := 73) C (by decide) dX6_gatherBlack_51 ?_
          refine q_lv (lv' := [(0, .ref (gad a0)), (1, .ref (gad a1)), (2, .ref (gad a2)), (5, .long (gL x5)), (7, .int (gI c12))]) [1, 2, 3, 4, 0] rfl ?_
          exact t73 (wX6_gatherBlack_27 kd ln post a0 a1 a2 n) hk27_ x5 c12 (-1) M11 h
  unfold wX6_gatherBlack at h
  refine q_aload_n C 0 rfl rfl dX6_gatherBlack_0 ?_
  refine q_get (v := gR (M a0 1 (-1))) C fX6_52 hk0 rfl dX6_gatherBlack_1 (fun g1 => ?_)
  obtain ⟨r2, h⟩ := h
  refine q_nn r2 (by decide) ?_
  refine q_aload_n C 2 rfl rfl dX6_gatherBlack_4 ?_
  refine q_get (v := .int (gI (M a2 0 (-1)))) C fX6_223 hk2 rfl dX6_gatherBlack_5 (fun g3 => ?_)
  have h := h g3
  refine q_aload_n C 2 rfl rfl dX6_gatherBlack_8 ?_
  refine q_get (v := .int (gI (M a2 1 (-1)))) C fX6_211 hk2 rfl dX6_gatherBlack_9 (fun g4 => ?_)
  have h := h g4
  refine q_aload_n C 2 rfl rfl dX6_gatherBlack_12 ?_
  refine q_get (v := .int (gI (M a2 2 (-1)))) C fX6_226 hk2 rfl dX6_gatherBlack_13 (fun g5 => ?_)
  have h := h g5
  refine q_aload_n C 2 rfl rfl dX6_gatherBlack_16 ?_
  refine q_get (v := .int (gI (M a2 3 (-1)))) C fX6_214 hk2 rfl dX6_gatherBlack_17 (fun g6 => ?_)
  have h := h g6
  refine q_callVL (As := [.int (gI (M a2 0 (-1))), .int (gI (M a2 1 (-1))), .int (gI (M a2 2 (-1))), .int (gI (M a2 3 (-1)))]) (st := []) C vX6_74 kX0_blackTargets ⟨Nat.le_of_ble_eq_true rfl, Nat.le_of_ble_eq_true rfl⟩ ⟨Nat.le_of_ble_eq_true rfl, Nat.le_of_ble_eq_true rfl⟩ rfl r2 ⟨_, _, rfl⟩ (by decide) rfl (Nat.le_of_ble_eq_true rfl) (mX0_blackTargets l D cy kd ln rh _ (M a0 1 (-1)) (M a2 0 (-1)) (M a2 1 (-1)) (M a2 2 (-1)) (M a2 3 (-1)) M r2 h) dX6_gatherBlack_20 (fun c8 M7 h => ?_)
  refine q_lstore_n (lv' := [(3, .long (gL c8)), (0, .ref (gad a0)), (1, .ref (gad a1)), (2, .ref (gad a2))]) C rfl (by decide) rfl dX6_gatherBlack_23 ?_
  refine q_lload_n C 0 rfl rfl dX6_gatherBlack_24 ?_
  refine q_lstore (lv' := [(5, .long (gL c8)), (3, .long (gL c8)), (0, .ref (gad a0)), (1, .ref (gad a1)), (2, .ref (gad a2))]) C (by decide) rfl dX6_gatherBlack_25 ?_
  refine q_lv (lv' := [(0, .ref (gad a0)), (1, .ref (gad a1)), (2, .ref (gad a2)), (5, .long (gL c8))]) [2, 3, 4, 0] rfl ?_
  obtain ⟨j27, h⟩ := h
  exact t27  j27 c8 M7 h
set_option maxHeartbeats 4000000 in
set_option maxRecDepth 100000 in
theorem mX6_gatherKing (l : Launch) (D : va_G) (cy : Nat → ClassId) (kd : gKd) (ln : gLn) (rh : gRh) (post : gM → Prop) (a0 : Int) (a1 : Int) (a2 : Int) (M : gM) (hk0 : kd a0 = 6) (hk1 : kd a1 = 1) (hk2 : kd a2 = 4) (h : wX6_gatherKing kd ln post a0 a1 a2 M) : gMV l D cy yX6_gatherKing cX6_gatherKing 8 4 100 [.ref (gad a0), .ref (gad a1), .ref (gad a2)] kd ln rh M post := by
  refine gMV_of (own := RX6) (by decide) rfl (Nat.le_of_ble_eq_true rfl) ?_
  intro p e s m args below meth c A H0 Q C hret
  have t23 : ∀ (n : Nat) (x5 : BitVec 64) (M : gM), wX6_gatherKing_23 kd ln post a0 a1 a2 n x5 M → gW p l e (gRm 4 100) s m args below meth c D cy A H0 Q 8 kd ln rh 0 0 M 23 [(0, .ref (gad a0)), (1, .ref (gad a1)), (2, .ref (gad a2)), (5, .long (gL x5))] [] := by
    intro n
    induction n with
    | zero => intro x5 M h; exact absurd h (by simp [wX6_gatherKing_23])
    | succ n ih =>
      intro x5 M h
      have hk23_ := ih
      rw [wX6_gatherKing_23] at h
      refine q_lload C 3 rfl dX6_gatherKing_23 ?_
      refine q_lconst (b := 0) C rfl dX6_gatherKing_25 ?_
      refine q_lcmp C dX6_gatherKing_26 ?_
      refine q_if_eq (tgt := 79) C (rng_of _) (by decide) dX6_gatherKing_27 (fun b9 => ?_) (fun b9 => ?_)
      · have h := h.1 b9
        exact hret M _ _ dX6_gatherKing_79 h
      · have h := h.2 b9
        refine q_lload C 3 rfl dX6_gatherKing_30 ?_
        refine q_callSI (As := [.long (gL x5)]) (st := []) C vX6_229 kX6_lowest ⟨Nat.le_of_ble_eq_true rfl, Nat.le_of_ble_eq_true rfl⟩ ⟨Nat.le_of_ble_eq_true rfl, Nat.le_of_ble_eq_true rfl⟩ rfl rfl (Nat.le_of_ble_eq_true rfl) (mX6_lowest l D cy kd ln rh _ x5 M  h) dX6_gatherKing_32 (fun c11 M10 g12 h => ?_)
        have h := h g12
        refine q_istore (lv' := [(7, .int (gI c11)), (0, .ref (gad a0)), (1, .ref (gad a1)), (2, .ref (gad a2)), (5, .long (gL x5))]) C (by decide) rfl dX6_gatherKing_35 ?_
        refine q_aload_n C 2 rfl rfl dX6_gatherKing_37 ?_
        refine q_aload_n C 3 rfl rfl dX6_gatherKing_38 ?_
        refine q_get (v := .int (gI (M10 a2 1 (-1)))) C fX6_211 hk2 rfl dX6_gatherKing_39 (fun g13 => ?_)
        have h := h g13
        refine q_iload C 0 rfl dX6_gatherKing_42 ?_
        refine q_iconst C dX6_gatherKing_44 ?_
        refine q_aload_n C 1 rfl rfl dX6_gatherKing_45 ?_
        refine q_aload_n C 3 rfl rfl dX6_gatherKing_46 ?_
        refine q_get (v := .int (gI (M10 a2 0 (-1)))) C fX6_223 hk2 rfl dX6_gatherKing_47 (fun g14 => ?_)
        have h := h g14
        refine q_iload C 0 rfl dX6_gatherKing_50 ?_
        refine q_aload_n C 3 rfl rfl dX6_gatherKing_52 ?_
        refine q_get (v := .int (gI (M10 a2 2 (-1)))) C fX6_226 hk2 rfl dX6_gatherKing_53 (fun g15 => ?_)
        have h := h g15
        refine q_aload_n C 3 rfl rfl dX6_gatherKing_56 ?_
        refine q_get (v := .int (gI (M10 a2 3 (-1)))) C fX6_214 hk2 rfl dX6_gatherKing_57 (fun g16 => ?_)
        have h := h g16
        refine q_iconst C dX6_gatherKing_60 ?_
        refine q_callVI (As := [.int (gI (M10 a2 0 (-1))), .int (gI c11), .int (gI (M10 a2 2 (-1))), .int (gI (M10 a2 3 (-1))), .int (gI 1)]) (st := [.int (gI (-1)), .int (gI c11), .int (gI (M10 a2 1 (-1))), .ref (gad a1)]) C vX6_232 kX6_lookUp ⟨Nat.le_of_ble_eq_true rfl, Nat.le_of_ble_eq_true rfl⟩ ⟨Nat.le_of_ble_eq_true rfl, Nat.le_of_ble_eq_true rfl⟩ rfl hk0 ⟨_, _, rfl⟩ (by decide) rfl (Nat.le_of_ble_eq_true rfl) (mX6_lookUp l D cy kd ln rh _ a0 (M10 a2 0 (-1)) c11 (M10 a2 2 (-1)) (M10 a2 3 (-1)) 1 M10 hk0 h) dX6_gatherKing_61 (fun c18 M17 g19 h => ?_)
        have h := h g19
        refine q_callVV (As := [.int (gI (M10 a2 1 (-1))), .int (gI c11), .int (gI (-1)), .int (gI c18)]) (st := []) C vX6_236 kX1_add ⟨Nat.le_of_ble_eq_true rfl, Nat.le_of_ble_eq_true rfl⟩ ⟨Nat.le_of_ble_eq_true rfl, Nat.le_of_ble_eq_true rfl⟩ rfl hk1 ⟨_, _, rfl⟩ (by decide) rfl (Nat.le_of_ble_eq_true rfl) (mX1_add l D cy kd ln rh _ a1 (M10 a2 1 (-1)) c11 (-1) c18 M17 hk1 h) dX6_gatherKing_64 (fun M20 h => ?_)
        refine q_lload C 4 rfl dX6_gatherKing_67 ?_
        refine q_lload C 4 rfl dX6_gatherKing_69 ?_
        refine q_lconst (b := 1) C rfl dX6_gatherKing_71 ?_
        refine q_lsub C dX6_gatherKing_72 ?_
        refine q_land C dX6_gatherKing_73 ?_
        refine q_topl (fun v23 ev23 => ?_)
        have h := h v23 ev23
        refine q_lstore (lv' := [(5, .long (gL v23)), (7, .int (gI c11)), (0, .ref (gad a0)), (1, .ref (gad a1)), (2, .ref (gad a2))]) C (by decide) rfl dX6_gatherKing_74 ?_
        refine q_goto (tgt := 23) C (by decide) dX6_gatherKing_76 ?_
        refine q_lv (lv' := [(0, .ref (gad a0)), (1, .ref (gad a1)), (2, .ref (gad a2)), (5, .long (gL v23))]) [2, 3, 4, 0] rfl ?_
        exact hk23_ v23 M20 h
  unfold wX6_gatherKing at h
  refine q_aload_n C 0 rfl rfl dX6_gatherKing_0 ?_
  refine q_get (v := gR (M a0 1 (-1))) C fX6_52 hk0 rfl dX6_gatherKing_1 (fun g1 => ?_)
  obtain ⟨r2, h⟩ := h
  refine q_nn r2 (by decide) ?_
  refine q_aload_n C 2 rfl rfl dX6_gatherKing_4 ?_
  refine q_get (v := .int (gI (M a2 1 (-1)))) C fX6_211 hk2 rfl dX6_gatherKing_5 (fun g3 => ?_)
  have h := h g3
  refine q_aload_n C 2 rfl rfl dX6_gatherKing_8 ?_
  refine q_get (v := .int (gI (M a2 2 (-1)))) C fX6_226 hk2 rfl dX6_gatherKing_9 (fun g4 => ?_)
  have h := h g4
  refine q_aload_n C 2 rfl rfl dX6_gatherKing_12 ?_
  refine q_get (v := .int (gI (M a2 3 (-1)))) C fX6_214 hk2 rfl dX6_gatherKing_13 (fun g5 => ?_)
  have h := h g5
  refine q_callVL (As := [.int (gI (M a2 1 (-1))), .int (gI (M a2 2 (-1))), .int (gI (M a2 3 (-1)))]) (st := []) C vX6_94 kX0_whiteTargets ⟨Nat.le_of_ble_eq_true rfl, Nat.le_of_ble_eq_true rfl⟩ ⟨Nat.le_of_ble_eq_true rfl, Nat.le_of_ble_eq_true rfl⟩ rfl r2 ⟨_, _, rfl⟩ (by decide) rfl (Nat.le_of_ble_eq_true rfl) (mX0_whiteTargets l D cy kd ln rh _ (M a0 1 (-1)) (M a2 1 (-1)) (M a2 2 (-1)) (M a2 3 (-1)) M r2 h) dX6_gatherKing_16 (fun c7 M6 h => ?_)
  refine q_lstore_n (lv' := [(3, .long (gL c7)), (0, .ref (gad a0)), (1, .ref (gad a1)), (2, .ref (gad a2))]) C rfl (by decide) rfl dX6_gatherKing_19 ?_
  refine q_lload_n C 0 rfl rfl dX6_gatherKing_20 ?_
  refine q_lstore (lv' := [(5, .long (gL c7)), (3, .long (gL c7)), (0, .ref (gad a0)), (1, .ref (gad a1)), (2, .ref (gad a2))]) C (by decide) rfl dX6_gatherKing_21 ?_
  refine q_lv (lv' := [(0, .ref (gad a0)), (1, .ref (gad a1)), (2, .ref (gad a2)), (5, .long (gL c7))]) [2, 3, 4, 0] rfl ?_
  obtain ⟨j23, h⟩ := h
  exact t23  j23 c7 M6 h
set_option maxHeartbeats 4000000 in
set_option maxRecDepth 100000 in
theorem mX6_gatherPromotions (l : Launch) (D : va_G) (cy : Nat → ClassId) (kd : gKd) (ln : gLn) (rh : gRh) (post : gM → Prop) (a0 : Int) (a1 : Int) (a2 : Int) (a3 : Int) (M : gM) (hk0 : kd a0 = 6) (hk1 : kd a1 = 1) (hk2 : kd a2 = 4) (h : wX6_gatherPromotions kd ln post a0 a1 a2 a3 M) : gMV l D cy yX6_gatherPromotions cX6_gatherPromotions 6 4 100 [.ref (gad a0), .ref (gad a1), .ref (gad a2), .int (gI a3)] kd ln rh M post := by
  refine gMV_of (own := RX6) (by decide) rfl (Nat.le_of_ble_eq_true rfl) ?_
  intro p e s m args below meth c A H0 Q C hret
  have t55 : ∀ (k3 : Int → gM → Prop), (∀ (x4 : Int), ∀ (M : gM), k3 x4 M → gW p l e (gRm 4 100) s m args below meth c D cy A H0 Q 6 kd ln rh 0 0 M 3 [(0, .ref (gad a0)), (1, .ref (gad a1)), (2, .ref (gad a2)), (3, .int (gI a3)), (4, .int (gI x4))] []) → ∀ (x4 : Int) (y0 : Int) (y1 : Int) (y2 : Int) (y3 : Int) (y4 : Int) (M : gM), wX6_gatherPromotions_55 kd ln post a0 a1 a2 a3 k3 x4 y0 y1 y2 y3 y4 M → gW p l e (gRm 4 100) s m args below meth c D cy A H0 Q 6 kd ln rh 0 0 M 55 [(0, .ref (gad a0)), (1, .ref (gad a1)), (2, .ref (gad a2)), (3, .int (gI a3)), (4, .int (gI x4))] [.int (gI y0), .int (gI y1), .int (gI y2), .int (gI y3), .ref (gad y4)] := by
    intro k3 hk3_ x4 y0 y1 y2 y3 y4 M h
    unfold wX6_gatherPromotions_55 at h
    obtain ⟨r12, h⟩ := h
    refine q_callVV (As := [.int (gI y3), .int (gI y2), .int (gI y1), .int (gI y0)]) (st := []) C vX6_236 kX1_add ⟨Nat.le_of_ble_eq_true rfl, Nat.le_of_ble_eq_true rfl⟩ ⟨Nat.le_of_ble_eq_true rfl, Nat.le_of_ble_eq_true rfl⟩ rfl r12 ⟨_, _, rfl⟩ (by decide) rfl (Nat.le_of_ble_eq_true rfl) (mX1_add l D cy kd ln rh _ y4 y3 y2 y1 y0 M r12 h) dX6_gatherPromotions_55 (fun M13 h => ?_)
    refine q_iinc (lv' := [(4, .int (gI (x4 + 1))), (0, .ref (gad a0)), (1, .ref (gad a1)), (2, .ref (gad a2)), (3, .int (gI a3))]) C 4 rfl (by decide) rfl dX6_gatherPromotions_58 ?_
    refine q_goto (tgt := 3) C (by decide) dX6_gatherPromotions_61 ?_
    refine q_lv (lv' := [(0, .ref (gad a0)), (1, .ref (gad a1)), (2, .ref (gad a2)), (3, .int (gI a3)), (4, .int (gI (x4 + 1)))]) [1, 2, 3, 4, 0] rfl ?_
    exact hk3_ (x4 + 1) M13 h
  have t20 : ∀ (k3 : Int → gM → Prop), (∀ (x4 : Int), ∀ (M : gM), k3 x4 M → gW p l e (gRm 4 100) s m args below meth c D cy A H0 Q 6 kd ln rh 0 0 M 3 [(0, .ref (gad a0)), (1, .ref (gad a1)), (2, .ref (gad a2)), (3, .int (gI a3)), (4, .int (gI x4))] []) → ∀ (x4 : Int) (y0 : Int) (M : gM), wX6_gatherPromotions_20 kd ln post a0 a1 a2 a3 k3 x4 y0 M → gW p l e (gRm 4 100) s m args below meth c D cy A H0 Q 6 kd ln rh 0 0 M 20 [(0, .ref (gad a0)), (1, .ref (gad a1)), (2, .ref (gad a2)), (3, .int (gI a3)), (4, .int (gI x4))] [.int (gI y0)] := by
    intro k3 hk3_ x4 y0 M h
    unfold wX6_gatherPromotions_20 at h
    refine q_istore (lv' := [(5, .int (gI y0)), (0, .ref (gad a0)), (1, .ref (gad a1)), (2, .ref (gad a2)), (3, .int (gI a3)), (4, .int (gI x4))]) C (by decide) rfl dX6_gatherPromotions_20 ?_
    refine q_aload_n C 2 rfl rfl dX6_gatherPromotions_22 ?_
    refine q_aload_n C 3 rfl rfl dX6_gatherPromotions_23 ?_
    refine q_get (v := .int (gI (M a2 3 (-1)))) C fX6_214 hk2 rfl dX6_gatherPromotions_24 (fun g4 => ?_)
    have h := h g4
    refine q_iload_n C 4 rfl rfl dX6_gatherPromotions_27 ?_
    refine q_iload C 5 rfl dX6_gatherPromotions_28 ?_
    refine q_iload C 0 rfl dX6_gatherPromotions_30 ?_
    obtain ⟨r5, h⟩ := h
    refine q_if_eq (tgt := 54) C r5 (by decide) dX6_gatherPromotions_32 (fun b6 => ?_) (fun b6 => ?_)
    · have h := h.1 b6
      refine q_iconst C dX6_gatherPromotions_54 ?_
      refine q_lv (lv' := [(0, .ref (gad a0)), (1, .ref (gad a1)), (2, .ref (gad a2)), (3, .int (gI a3)), (4, .int (gI x4))]) [1, 2, 3, 4, 5] rfl ?_
      exact t55 k3 hk3_ x4 (-1) x4 a3 (M a2 3 (-1)) a1 M h
    · have h := h.2 b6
      refine q_aload_n C 1 rfl rfl dX6_gatherPromotions_35 ?_
      refine q_iload C 5 rfl dX6_gatherPromotions_36 ?_
      refine q_aload_n C 3 rfl rfl dX6_gatherPromotions_38 ?_
      refine q_get (v := .int (gI (M a2 1 (-1)))) C fX6_211 hk2 rfl dX6_gatherPromotions_39 (fun g7 => ?_)
      have h := h g7
      refine q_aload_n C 3 rfl rfl dX6_gatherPromotions_42 ?_
      refine q_get (v := .int (gI (M a2 2 (-1)))) C fX6_226 hk2 rfl dX6_gatherPromotions_43 (fun g8 => ?_)
      have h := h g8
      refine q_iload_n C 4 rfl rfl dX6_gatherPromotions_46 ?_
      refine q_iconst C dX6_gatherPromotions_47 ?_
      refine q_callVI (As := [.int (gI x4), .int (gI (M a2 1 (-1))), .int (gI (M a2 2 (-1))), .int (gI a3), .int (gI 1)]) (st := [.int (gI x4), .int (gI a3), .int (gI (M a2 3 (-1))), .ref (gad a1)]) C vX6_232 kX6_lookUp ⟨Nat.le_of_ble_eq_true rfl, Nat.le_of_ble_eq_true rfl⟩ ⟨Nat.le_of_ble_eq_true rfl, Nat.le_of_ble_eq_true rfl⟩ rfl hk0 ⟨_, _, rfl⟩ (by decide) rfl (Nat.le_of_ble_eq_true rfl) (mX6_lookUp l D cy kd ln rh _ a0 x4 (M a2 1 (-1)) (M a2 2 (-1)) a3 1 M hk0 h) dX6_gatherPromotions_48 (fun c10 M9 g11 h => ?_)
      have h := h g11
      refine q_goto (tgt := 55) C (by decide) dX6_gatherPromotions_51 ?_
      refine q_lv (lv' := [(0, .ref (gad a0)), (1, .ref (gad a1)), (2, .ref (gad a2)), (3, .int (gI a3)), (4, .int (gI x4))]) [1, 2, 3, 4, 5] rfl ?_
      exact t55 k3 hk3_ x4 c10 x4 a3 (M a2 3 (-1)) a1 M9 h
  have t3 : ∀ (n : Nat) (x4 : Int) (M : gM), wX6_gatherPromotions_3 kd ln post a0 a1 a2 a3 n x4 M → gW p l e (gRm 4 100) s m args below meth c D cy A H0 Q 6 kd ln rh 0 0 M 3 [(0, .ref (gad a0)), (1, .ref (gad a1)), (2, .ref (gad a2)), (3, .int (gI a3)), (4, .int (gI x4))] [] := by
    intro n
    induction n with
    | zero => intro x4 M h; exact absurd h (by simp [wX6_gatherPromotions_3])
    | succ n ih =>
      intro x4 M h
      have hk3_ := ih
      rw [wX6_gatherPromotions_3] at h
      refine q_iload C 4 rfl dX6_gatherPromotions_3 ?_
      refine q_iconst C dX6_gatherPromotions_5 ?_
      obtain ⟨r1, h⟩ := h
      refine q_icmp_ge (tgt := 64) C r1 (show rng 4 by decide) (by decide) dX6_gatherPromotions_6 (fun b2 => ?_) (fun b2 => ?_)
      · have h := h.1 b2
        exact hret M _ _ dX6_gatherPromotions_64 h
      · have h := h.2 b2
        refine q_iload C 4 rfl dX6_gatherPromotions_9 ?_
        refine q_iconst C dX6_gatherPromotions_11 ?_
        refine q_icmp_gt (tgt := 19) C r1 (show rng 1 by decide) (by decide) dX6_gatherPromotions_12 (fun b3 => ?_) (fun b3 => ?_)
        · have h := h.1 b3
          refine q_iconst C dX6_gatherPromotions_19 ?_
          exact t20 (wX6_gatherPromotions_3 kd ln post a0 a1 a2 a3 n) hk3_ x4 0 M h
        · have h := h.2 b3
          refine q_iconst C dX6_gatherPromotions_15 ?_
          refine q_goto (tgt := 20) C (by decide) dX6_gatherPromotions_16 ?_
          exact t20 (wX6_gatherPromotions_3 kd ln post a0 a1 a2 a3 n) hk3_ x4 1 M h
  unfold wX6_gatherPromotions at h
  refine q_iconst C dX6_gatherPromotions_0 ?_
  refine q_istore (lv' := [(4, .int (gI 0)), (0, .ref (gad a0)), (1, .ref (gad a1)), (2, .ref (gad a2)), (3, .int (gI a3))]) C (by decide) rfl dX6_gatherPromotions_1 ?_
  refine q_lv (lv' := [(0, .ref (gad a0)), (1, .ref (gad a1)), (2, .ref (gad a2)), (3, .int (gI a3)), (4, .int (gI 0))]) [1, 2, 3, 4, 0] rfl ?_
  obtain ⟨j3, h⟩ := h
  exact t3  j3 0 M h
set_option maxHeartbeats 4000000 in
set_option maxRecDepth 100000 in
theorem mX6_gatherMan (l : Launch) (D : va_G) (cy : Nat → ClassId) (kd : gKd) (ln : gLn) (rh : gRh) (post : gM → Prop) (a0 : Int) (a1 : Int) (a2 : Int) (M : gM) (hk0 : kd a0 = 6) (hk1 : kd a1 = 1) (hk2 : kd a2 = 4) (h : wX6_gatherMan kd ln post a0 a1 a2 M) : gMV l D cy yX6_gatherMan cX6_gatherMan 8 5 125 [.ref (gad a0), .ref (gad a1), .ref (gad a2)] kd ln rh M post := by
  refine gMV_of (own := RX6) (by decide) rfl (Nat.le_of_ble_eq_true rfl) ?_
  intro p e s m args below meth c A H0 Q C hret
  have t102 : ∀ (k27 : BitVec 64 → gM → Prop), (∀ (x5 : BitVec 64), ∀ (M : gM), k27 x5 M → gW p l e (gRm 5 125) s m args below meth c D cy A H0 Q 8 kd ln rh 0 0 M 27 [(0, .ref (gad a0)), (1, .ref (gad a1)), (2, .ref (gad a2)), (5, .long (gL x5))] []) → ∀ (x5 : BitVec 64) (M : gM), wX6_gatherMan_102 kd ln post a0 a1 a2 k27 x5 M → gW p l e (gRm 5 125) s m args below meth c D cy A H0 Q 8 kd ln rh 0 0 M 102 [(0, .ref (gad a0)), (1, .ref (gad a1)), (2, .ref (gad a2)), (5, .long (gL x5))] [] := by
    intro k27 hk27_ x5 M h
    unfold wX6_gatherMan_102 at h
    refine q_lload C 3 rfl dX6_gatherMan_102 ?_
    refine q_lload C 3 rfl dX6_gatherMan_104 ?_
    refine q_lconst (b := 1) C rfl dX6_gatherMan_106 ?_
    refine q_lsub C dX6_gatherMan_107 ?_
    refine q_land C dX6_gatherMan_108 ?_
    refine q_topl (fun v25 ev25 => ?_)
    have h := h v25 ev25
    refine q_lstore (lv' := [(5, .long (gL v25)), (0, .ref (gad a0)), (1, .ref (gad a1)), (2, .ref (gad a2))]) C (by decide) rfl dX6_gatherMan_109 ?_
    refine q_goto (tgt := 27) C (by decide) dX6_gatherMan_111 ?_
    refine q_lv (lv' := [(0, .ref (gad a0)), (1, .ref (gad a1)), (2, .ref (gad a2)), (5, .long (gL v25))]) [1, 2, 3, 0] rfl ?_
    exact hk27_ v25 M h
  have t72 : ∀ (k27 : BitVec 64 → gM → Prop), (∀ (x5 : BitVec 64), ∀ (M : gM), k27 x5 M → gW p l e (gRm 5 125) s m args below meth c D cy A H0 Q 8 kd ln rh 0 0 M 27 [(0, .ref (gad a0)), (1, .ref (gad a1)), (2, .ref (gad a2)), (5, .long (gL x5))] []) → ∀ (x5 : BitVec 64) (x7 : Int) (M : gM), wX6_gatherMan_72 kd ln post a0 a1 a2 k27 x5 x7 M → gW p l e (gRm 5 125) s m args below meth c D cy A H0 Q 8 kd ln rh 0 0 M 72 [(0, .ref (gad a0)), (1, .ref (gad a1)), (2, .ref (gad a2)), (5, .long (gL x5)), (7, .int (gI x7))] [] := by
    intro k27 hk27_ x5 x7 M h
    unfold wX6_gatherMan_72 at h
    refine q_aload_n C 1 rfl rfl dX6_gatherMan_72 ?_
    refine q_aload_n C 2 rfl rfl dX6_gatherMan_73 ?_
    refine q_get (v := .int (gI (M a2 3 (-1)))) C fX6_214 hk2 rfl dX6_gatherMan_74 (fun g26 => ?_)
    have h := h g26
    refine q_iload C 4 rfl dX6_gatherMan_77 ?_
    refine q_iconst C dX6_gatherMan_79 ?_
    refine q_aload_n C 0 rfl rfl dX6_gatherMan_80 ?_
    refine q_aload_n C 2 rfl rfl dX6_gatherMan_81 ?_
    refine q_get (v := .int (gI (M a2 0 (-1)))) C fX6_223 hk2 rfl dX6_gatherMan_82 (fun g27 => ?_)
    have h := h g27
    refine q_aload_n C 2 rfl rfl dX6_gatherMan_85 ?_
    refine q_get (v := .int (gI (M a2 1 (-1)))) C fX6_211 hk2 rfl dX6_gatherMan_86 (fun g28 => ?_)
    have h := h g28
    refine q_aload_n C 2 rfl rfl dX6_gatherMan_89 ?_
    refine q_get (v := .int (gI (M a2 2 (-1)))) C fX6_226 hk2 rfl dX6_gatherMan_90 (fun g29 => ?_)
    have h := h g29
    refine q_iload C 4 rfl dX6_gatherMan_93 ?_
    refine q_iconst C dX6_gatherMan_95 ?_
    refine q_callVI (As := [.int (gI (M a2 0 (-1))), .int (gI (M a2 1 (-1))), .int (gI (M a2 2 (-1))), .int (gI x7), .int (gI 1)]) (st := [.int (gI (-1)), .int (gI x7), .int (gI (M a2 3 (-1))), .ref (gad a1)]) C vX6_232 kX6_lookUp ⟨Nat.le_of_ble_eq_true rfl, Nat.le_of_ble_eq_true rfl⟩ ⟨Nat.le_of_ble_eq_true rfl, Nat.le_of_ble_eq_true rfl⟩ rfl hk0 ⟨_, _, rfl⟩ (by decide) rfl (Nat.le_of_ble_eq_true rfl) (mX6_lookUp l D cy kd ln rh _ a0 (M a2 0 (-1)) (M a2 1 (-1)) (M a2 2 (-1)) x7 1 M hk0 h) dX6_gatherMan_96 (fun c31 M30 g32 h => ?_)
    have h := h g32
    refine q_callVV (As := [.int (gI (M a2 3 (-1))), .int (gI x7), .int (gI (-1)), .int (gI c31)]) (st := []) C vX6_236 kX1_add ⟨Nat.le_of_ble_eq_true rfl, Nat.le_of_ble_eq_true rfl⟩ ⟨Nat.le_of_ble_eq_true rfl, Nat.le_of_ble_eq_true rfl⟩ rfl hk1 ⟨_, _, rfl⟩ (by decide) rfl (Nat.le_of_ble_eq_true rfl) (mX1_add l D cy kd ln rh _ a1 (M a2 3 (-1)) x7 (-1) c31 M30 hk1 h) dX6_gatherMan_99 (fun M33 h => ?_)
    refine q_lv (lv' := [(0, .ref (gad a0)), (1, .ref (gad a1)), (2, .ref (gad a2)), (5, .long (gL x5))]) [0, 1, 2, 3] rfl ?_
    exact t102 k27 hk27_ x5 M33 h
  have t27 : ∀ (n : Nat) (x5 : BitVec 64) (M : gM), wX6_gatherMan_27 kd ln post a0 a1 a2 n x5 M → gW p l e (gRm 5 125) s m args below meth c D cy A H0 Q 8 kd ln rh 0 0 M 27 [(0, .ref (gad a0)), (1, .ref (gad a1)), (2, .ref (gad a2)), (5, .long (gL x5))] [] := by
    intro n
    induction n with
    | zero => intro x5 M h; exact absurd h (by simp [wX6_gatherMan_27])
    | succ n ih =>
      intro x5 M h
      have hk27_ := ih
      rw [wX6_gatherMan_27] at h
      refine q_lload C 3 rfl dX6_gatherMan_27 ?_
      refine q_lconst (b := 0) C rfl dX6_gatherMan_29 ?_
      refine q_lcmp C dX6_gatherMan_30 ?_
      refine q_if_eq (tgt := 114) C (rng_of _) (by decide) dX6_gatherMan_31 (fun b10 => ?_) (fun b10 => ?_)
      · have h := h.1 b10
        exact hret M _ _ dX6_gatherMan_114 h
      · have h := h.2 b10
        refine q_lload C 3 rfl dX6_gatherMan_34 ?_
        refine q_callSI (As := [.long (gL x5)]) (st := []) C vX6_229 kX6_lowest ⟨Nat.le_of_ble_eq_true rfl, Nat.le_of_ble_eq_true rfl⟩ ⟨Nat.le_of_ble_eq_true rfl, Nat.le_of_ble_eq_true rfl⟩ rfl rfl (Nat.le_of_ble_eq_true rfl) (mX6_lowest l D cy kd ln rh _ x5 M  h) dX6_gatherMan_36 (fun c12 M11 g13 h => ?_)
        have h := h g13
        refine q_istore (lv' := [(7, .int (gI c12)), (0, .ref (gad a0)), (1, .ref (gad a1)), (2, .ref (gad a2)), (5, .long (gL x5))]) C (by decide) rfl dX6_gatherMan_39 ?_
        refine q_aload_n C 3 rfl rfl dX6_gatherMan_41 ?_
        refine q_get (v := .int (gI (M11 a2 0 (-1)))) C fX6_223 hk2 rfl dX6_gatherMan_42 (fun g14 => ?_)
        have h := h g14
        refine q_iconst C dX6_gatherMan_45 ?_
        refine q_icmp_ne (tgt := 72) C g14 (show rng 2 by decide) (by decide) dX6_gatherMan_46 (fun b15 => ?_) (fun b15 => ?_)
        · have h := h.1 b15
          refine q_lv (lv' := [(0, .ref (gad a0)), (1, .ref (gad a1)), (2, .ref (gad a2)), (5, .long (gL x5)), (7, .int (gI c12))]) [1, 2, 3, 4, 0] rfl ?_
          exact t72 (wX6_gatherMan_27 kd ln post a0 a1 a2 n) hk27_ x5 c12 M11 h
        · have h := h.2 b15
          refine q_aload_n C 1 rfl rfl dX6_gatherMan_49 ?_
          refine q_get (v := gR (M11 a0 1 (-1))) C fX6_52 hk0 rfl dX6_gatherMan_50 (fun g16 => ?_)
          obtain ⟨r17, h⟩ := h
          refine q_nn r17 (by decide) ?_
          refine q_iload C 0 rfl dX6_gatherMan_53 ?_
          refine q_callVI (As := [.int (gI c12)]) (st := []) C vX6_90 kX0_isLastRank ⟨Nat.le_of_ble_eq_true rfl, Nat.le_of_ble_eq_true rfl⟩ ⟨Nat.le_of_ble_eq_true rfl, Nat.le_of_ble_eq_true rfl⟩ rfl r17 ⟨_, _, rfl⟩ (by decide) rfl (Nat.le_of_ble_eq_true rfl) (mX0_isLastRank l D cy kd ln rh _ (M11 a0 1 (-1)) c12 M11 r17 h) dX6_gatherMan_55 (fun c19 M18 g20 h => ?_)
          have h := h g20
          refine q_if_eq (tgt := 72) C g20 (by decide) dX6_gatherMan_58 (fun b21 => ?_) (fun b21 => ?_)
          · have h := h.1 b21
            refine q_lv (lv' := [(0, .ref (gad a0)), (1, .ref (gad a1)), (2, .ref (gad a2)), (5, .long (gL x5)), (7, .int (gI c12))]) [1, 2, 3, 4, 0] rfl ?_
            exact t72 (wX6_gatherMan_27 kd ln post a0 a1 a2 n) hk27_ x5 c12 M18 h
          · have h := h.2 b21
            refine q_aload_n C 1 rfl rfl dX6_gatherMan_61 ?_
            refine q_aload_n C 2 rfl rfl dX6_gatherMan_62 ?_
            refine q_aload_n C 3 rfl rfl dX6_gatherMan_63 ?_
            refine q_iload C 0 rfl dX6_gatherMan_64 ?_
            refine q_callVV (As := [.ref (gad a1), .ref (gad a2), .int (gI c12)]) (st := []) C vX6_240 kX6_gatherPromotions ⟨Nat.le_of_ble_eq_true rfl, Nat.le_of_ble_eq_true rfl⟩ ⟨Nat.le_of_ble_eq_true rfl, Nat.le_of_ble_eq_true rfl⟩ rfl hk0 ⟨_, _, rfl⟩ (by decide) rfl (Nat.le_of_ble_eq_true rfl) (mX6_gatherPromotions l D cy kd ln rh _ a0 a1 a2 c12 M18 hk0 hk1 hk2 h) dX6_gatherMan_66 (fun M22 h => ?_)
            refine q_goto (tgt := 102) C (by decide) dX6_gatherMan_69 ?_
            refine q_lv (lv' := [(0, .ref (gad a0)), (1, .ref (gad a1)), (2, .ref (gad a2)), (5, .long (gL x5))]) [1, 2, 3, 4] rfl ?_
            exact t102 (wX6_gatherMan_27 kd ln post a0 a1 a2 n) hk27_ x5 M22 h
  unfold wX6_gatherMan at h
  refine q_aload_n C 0 rfl rfl dX6_gatherMan_0 ?_
  refine q_get (v := gR (M a0 1 (-1))) C fX6_52 hk0 rfl dX6_gatherMan_1 (fun g1 => ?_)
  obtain ⟨r2, h⟩ := h
  refine q_nn r2 (by decide) ?_
  refine q_aload_n C 2 rfl rfl dX6_gatherMan_4 ?_
  refine q_get (v := .int (gI (M a2 0 (-1)))) C fX6_223 hk2 rfl dX6_gatherMan_5 (fun g3 => ?_)
  have h := h g3
  refine q_aload_n C 2 rfl rfl dX6_gatherMan_8 ?_
  refine q_get (v := .int (gI (M a2 1 (-1)))) C fX6_211 hk2 rfl dX6_gatherMan_9 (fun g4 => ?_)
  have h := h g4
  refine q_aload_n C 2 rfl rfl dX6_gatherMan_12 ?_
  refine q_get (v := .int (gI (M a2 2 (-1)))) C fX6_226 hk2 rfl dX6_gatherMan_13 (fun g5 => ?_)
  have h := h g5
  refine q_aload_n C 2 rfl rfl dX6_gatherMan_16 ?_
  refine q_get (v := .int (gI (M a2 3 (-1)))) C fX6_214 hk2 rfl dX6_gatherMan_17 (fun g6 => ?_)
  have h := h g6
  refine q_callVL (As := [.int (gI (M a2 0 (-1))), .int (gI (M a2 1 (-1))), .int (gI (M a2 2 (-1))), .int (gI (M a2 3 (-1)))]) (st := []) C vX6_84 kX0_manTargets ⟨Nat.le_of_ble_eq_true rfl, Nat.le_of_ble_eq_true rfl⟩ ⟨Nat.le_of_ble_eq_true rfl, Nat.le_of_ble_eq_true rfl⟩ rfl r2 ⟨_, _, rfl⟩ (by decide) rfl (Nat.le_of_ble_eq_true rfl) (mX0_manTargets l D cy kd ln rh _ (M a0 1 (-1)) (M a2 0 (-1)) (M a2 1 (-1)) (M a2 2 (-1)) (M a2 3 (-1)) M r2 h) dX6_gatherMan_20 (fun c8 M7 h => ?_)
  refine q_lstore_n (lv' := [(3, .long (gL c8)), (0, .ref (gad a0)), (1, .ref (gad a1)), (2, .ref (gad a2))]) C rfl (by decide) rfl dX6_gatherMan_23 ?_
  refine q_lload_n C 0 rfl rfl dX6_gatherMan_24 ?_
  refine q_lstore (lv' := [(5, .long (gL c8)), (3, .long (gL c8)), (0, .ref (gad a0)), (1, .ref (gad a1)), (2, .ref (gad a2))]) C (by decide) rfl dX6_gatherMan_25 ?_
  refine q_lv (lv' := [(0, .ref (gad a0)), (1, .ref (gad a1)), (2, .ref (gad a2)), (5, .long (gL c8))]) [2, 3, 4, 0] rfl ?_
  obtain ⟨j27, h⟩ := h
  exact t27  j27 c8 M7 h
set_option maxHeartbeats 4000000 in
set_option maxRecDepth 100000 in
theorem mX6_gather (l : Launch) (D : va_G) (cy : Nat → ClassId) (kd : gKd) (ln : gLn) (rh : gRh) (post : gM → Prop) (a0 : Int) (a1 : Int) (a2 : Int) (M : gM) (hk0 : kd a0 = 6) (hk1 : kd a1 = 1) (hk2 : kd a2 = 4) (h : wX6_gather kd ln post a0 a1 a2 M) : gMV l D cy yX6_gather cX6_gather 3 6 152 [.ref (gad a0), .ref (gad a1), .ref (gad a2)] kd ln rh M post := by
  refine gMV_of (own := RX6) (by decide) rfl (Nat.le_of_ble_eq_true rfl) ?_
  intro p e s m args below meth c A H0 Q C hret
  unfold wX6_gather at h
  refine q_aload_n C 1 rfl rfl dX6_gather_0 ?_
  refine q_iconst C dX6_gather_1 ?_
  refine q_put (x := 0) (ty := .int) C fX6_121 hk1 (fun _ _ _ q => by cases q; rfl) (congrArg (fun z => Value.int (gI z)) gu_s) rfl rfl (show rng 0 by decide) (fun j q => absurd (show (0 : Nat) = j + 3 from q) (by omega)) dX6_gather_2 ?_
  refine q_aload_n C 2 rfl rfl dX6_gather_5 ?_
  refine q_get (v := .int (gI ((gu M a1 0 (-1) 0) a2 4 (-1)))) C fX6_205 hk2 rfl dX6_gather_6 (fun g1 => ?_)
  have h := h g1
  refine q_iconst C dX6_gather_9 ?_
  refine q_icmp_ne (tgt := 22) C g1 (show rng 1 by decide) (by decide) dX6_gather_10 (fun b2 => ?_) (fun b2 => ?_)
  · have h := h.1 b2
    refine q_aload_n C 2 rfl rfl dX6_gather_22 ?_
    refine q_get (v := .int (gI ((gu M a1 0 (-1) 0) a2 1 (-1)))) C fX6_211 hk2 rfl dX6_gather_23 (fun g3 => ?_)
    have h := h g3
    refine q_aload_n C 2 rfl rfl dX6_gather_26 ?_
    refine q_get (v := .int (gI ((gu M a1 0 (-1) 0) a2 3 (-1)))) C fX6_214 hk2 rfl dX6_gather_27 (fun g4 => ?_)
    have h := h g4
    refine q_icmp_ge (tgt := 48) C g3 g4 (by decide) dX6_gather_30 (fun b5 => ?_) (fun b5 => ?_)
    · have h := h.1 b5
      refine q_aload_n C 0 rfl rfl dX6_gather_48 ?_
      refine q_aload_n C 1 rfl rfl dX6_gather_49 ?_
      refine q_aload_n C 2 rfl rfl dX6_gather_50 ?_
      refine q_callVV (As := [.ref (gad a1), .ref (gad a2)]) (st := []) C vX6_220 kX6_gatherMan ⟨Nat.le_of_ble_eq_true rfl, Nat.le_of_ble_eq_true rfl⟩ ⟨Nat.le_of_ble_eq_true rfl, Nat.le_of_ble_eq_true rfl⟩ rfl hk0 ⟨_, _, rfl⟩ (by decide) rfl (Nat.le_of_ble_eq_true rfl) (mX6_gatherMan l D cy kd ln rh _ a0 a1 a2 (gu M a1 0 (-1) 0) hk0 hk1 hk2 h) dX6_gather_51 (fun M6 h => ?_)
      refine q_aload_n C 0 rfl rfl dX6_gather_54 ?_
      refine q_aload_n C 1 rfl rfl dX6_gather_55 ?_
      refine q_aload_n C 2 rfl rfl dX6_gather_56 ?_
      refine q_callVV (As := [.ref (gad a1), .ref (gad a2)]) (st := []) C vX6_217 kX6_gatherKing ⟨Nat.le_of_ble_eq_true rfl, Nat.le_of_ble_eq_true rfl⟩ ⟨Nat.le_of_ble_eq_true rfl, Nat.le_of_ble_eq_true rfl⟩ rfl hk0 ⟨_, _, rfl⟩ (by decide) rfl (Nat.le_of_ble_eq_true rfl) (mX6_gatherKing l D cy kd ln rh _ a0 a1 a2 M6 hk0 hk1 hk2 h) dX6_gather_57 (fun M9 h => ?_)
      exact hret M9 _ _ dX6_gather_60 h
    · have h := h.2 b5
      refine q_aload_n C 0 rfl rfl dX6_gather_33 ?_
      refine q_aload_n C 1 rfl rfl dX6_gather_34 ?_
      refine q_aload_n C 2 rfl rfl dX6_gather_35 ?_
      refine q_callVV (As := [.ref (gad a1), .ref (gad a2)]) (st := []) C vX6_217 kX6_gatherKing ⟨Nat.le_of_ble_eq_true rfl, Nat.le_of_ble_eq_true rfl⟩ ⟨Nat.le_of_ble_eq_true rfl, Nat.le_of_ble_eq_true rfl⟩ rfl hk0 ⟨_, _, rfl⟩ (by decide) rfl (Nat.le_of_ble_eq_true rfl) (mX6_gatherKing l D cy kd ln rh _ a0 a1 a2 (gu M a1 0 (-1) 0) hk0 hk1 hk2 h) dX6_gather_36 (fun M12 h => ?_)
      refine q_aload_n C 0 rfl rfl dX6_gather_39 ?_
      refine q_aload_n C 1 rfl rfl dX6_gather_40 ?_
      refine q_aload_n C 2 rfl rfl dX6_gather_41 ?_
      refine q_callVV (As := [.ref (gad a1), .ref (gad a2)]) (st := []) C vX6_220 kX6_gatherMan ⟨Nat.le_of_ble_eq_true rfl, Nat.le_of_ble_eq_true rfl⟩ ⟨Nat.le_of_ble_eq_true rfl, Nat.le_of_ble_eq_true rfl⟩ rfl hk0 ⟨_, _, rfl⟩ (by decide) rfl (Nat.le_of_ble_eq_true rfl) (mX6_gatherMan l D cy kd ln rh _ a0 a1 a2 M12 hk0 hk1 hk2 h) dX6_gather_42 (fun M15 h => ?_)
      refine q_goto (tgt := 60) C (by decide) dX6_gather_45 ?_
      exact hret M15 _ _ dX6_gather_60 h
  · have h := h.2 b2
    refine q_aload_n C 0 rfl rfl dX6_gather_13 ?_
    refine q_aload_n C 1 rfl rfl dX6_gather_14 ?_
    refine q_aload_n C 2 rfl rfl dX6_gather_15 ?_
    refine q_callVV (As := [.ref (gad a1), .ref (gad a2)]) (st := []) C vX6_208 kX6_gatherBlack ⟨Nat.le_of_ble_eq_true rfl, Nat.le_of_ble_eq_true rfl⟩ ⟨Nat.le_of_ble_eq_true rfl, Nat.le_of_ble_eq_true rfl⟩ rfl hk0 ⟨_, _, rfl⟩ (by decide) rfl (Nat.le_of_ble_eq_true rfl) (mX6_gatherBlack l D cy kd ln rh _ a0 a1 a2 (gu M a1 0 (-1) 0) hk0 hk1 hk2 h) dX6_gather_16 (fun M18 h => ?_)
    refine q_goto (tgt := 60) C (by decide) dX6_gather_19 ?_
    exact hret M18 _ _ dX6_gather_60 h
set_option maxHeartbeats 4000000 in
set_option maxRecDepth 100000 in
theorem mX6_goalAfter (l : Launch) (D : va_G) (cy : Nat → ClassId) (kd : gKd) (ln : gLn) (rh : gRh) (post : Int → gM → Prop) (a0 : Int) (M : gM)  (h : wX6_goalAfter kd ln post a0 M) : gMI l D cy yX6_goalAfter cX6_goalAfter 1 .int 0 0 [.int (gI a0)] kd ln rh M post := by
  refine gMI_of (own := RX6) (by decide) rfl (Nat.le_of_ble_eq_true rfl) ?_
  intro p e s m args below meth c A H0 Q C hret
  unfold wX6_goalAfter at h
  refine q_iload_n C 0 rfl rfl dX6_goalAfter_0 ?_
  refine q_iconst C dX6_goalAfter_1 ?_
  obtain ⟨r1, h⟩ := h
  refine q_icmp_ne (tgt := 9) C r1 (show rng (-1) by decide) (by decide) dX6_goalAfter_2 (fun b2 => ?_) (fun b2 => ?_)
  · have h := h.1 b2
    refine q_iload_n C 0 rfl rfl dX6_goalAfter_9 ?_
    refine q_iconst C dX6_goalAfter_10 ?_
    refine q_isub C dX6_goalAfter_11 ?_
    obtain ⟨r3, h⟩ := h
    exact hret (a0 - 1) M _ _ dX6_goalAfter_12 r3 h
  · have h := h.2 b2
    refine q_iconst C dX6_goalAfter_5 ?_
    refine q_goto (tgt := 12) C (by decide) dX6_goalAfter_6 ?_
    exact hret (-1) M _ _ dX6_goalAfter_12 (show rng (-1) by decide) h
set_option maxHeartbeats 4000000 in
set_option maxRecDepth 100000 in
theorem mX6_best (l : Launch) (D : va_G) (cy : Nat → ClassId) (kd : gKd) (ln : gLn) (rh : gRh) (post : Int → gM → Prop) (px : gM → Prop) (a0 : Int) (a1 : Int) (a2 : Int) (a3 : Int) (a4 : Int) (a5 : Int) (M : gM) (hst : l.stackTraces = false) (hk0 : kd a0 = 6) (h : wX6_best kd ln post px a0 a1 a2 a3 a4 a5 M) : gTI l D cy yX6_best cX6_best 7 .int 8 174 [.ref (gad a0), .int (gI a1), .int (gI a2), .int (gI a3), .int (gI a4), .int (gI a5)] kd ln rh M post px := by
  refine gTI_of (own := RX6) (by decide) rfl (Nat.le_of_ble_eq_true rfl) hst rfl ?_
  intro p e s m args below meth c A H0 Q C hret hthr hexc
  unfold wX6_best at h
  refine q_aload_n C 0 rfl rfl dX6_best_0 ?_
  refine q_iload_n C 1 rfl rfl dX6_best_1 ?_
  refine q_iload_n C 2 rfl rfl dX6_best_2 ?_
  refine q_iload_n C 3 rfl rfl dX6_best_3 ?_
  refine q_iload C 4 rfl dX6_best_4 ?_
  refine q_iload C 5 rfl dX6_best_6 ?_
  refine q_callTR (As := [.int (gI a1), .int (gI a2), .int (gI a3), .int (gI a4), .int (gI a5)]) (st := []) C vX6_98 kX6_demandTable ⟨Nat.le_of_ble_eq_true rfl, Nat.le_of_ble_eq_true rfl⟩ ⟨Nat.le_of_ble_eq_true rfl, Nat.le_of_ble_eq_true rfl⟩ rfl hk0 ⟨_, _, rfl⟩ (by decide) rfl (Nat.le_of_ble_eq_true rfl) (mX6_demandTable l D cy kd ln rh _ _ a0 a1 a2 a3 a4 a5 M hst hk0 h) dX6_best_8 (fun M9 h => hexc M9 _ _ _ _ _ (by decide) (by decide) h) (fun c2 M1 h => ?_)
  refine q_iload_n C 2 rfl rfl dX6_best_11 ?_
  refine q_iload_n C 3 rfl rfl dX6_best_12 ?_
  refine q_iload C 4 rfl dX6_best_13 ?_
  refine q_iload C 5 rfl dX6_best_15 ?_
  obtain ⟨r4, h⟩ := h
  refine q_callVI (As := [.int (gI a2), .int (gI a3), .int (gI a4), .int (gI a5)]) (st := []) C vX6_102 kX5_look ⟨Nat.le_of_ble_eq_true rfl, Nat.le_of_ble_eq_true rfl⟩ ⟨Nat.le_of_ble_eq_true rfl, Nat.le_of_ble_eq_true rfl⟩ rfl r4 ⟨_, _, rfl⟩ (by decide) rfl (Nat.le_of_ble_eq_true rfl) (mX5_look l D cy kd ln rh _ c2 a2 a3 a4 a5 M1 r4 h) dX6_best_17 (fun c6 M5 g7 h => ?_)
  have h := h g7
  refine q_istore (lv' := [(6, .int (gI c6)), (0, .ref (gad a0)), (1, .int (gI a1)), (2, .int (gI a2)), (3, .int (gI a3)), (4, .int (gI a4)), (5, .int (gI a5))]) C (by decide) rfl dX6_best_20 ?_
  refine q_aload_n C 1 rfl rfl dX6_best_22 ?_
  refine q_get (v := gR (M5 a0 4 (-1))) C fX6_29 hk0 rfl dX6_best_23 (fun g8 => ?_)
  obtain ⟨r9, h⟩ := h
  refine q_nn r9 (by decide) ?_
  refine q_iload_n C 2 rfl rfl dX6_best_26 ?_
  refine q_iload_n C 3 rfl rfl dX6_best_27 ?_
  refine q_iload_n C 4 rfl rfl dX6_best_28 ?_
  refine q_iload C 5 rfl dX6_best_29 ?_
  refine q_iload C 6 rfl dX6_best_31 ?_
  refine q_callVV (As := [.int (gI a1), .int (gI a2), .int (gI a3), .int (gI a4), .int (gI a5)]) (st := []) C vX6_106 kX4_set ⟨Nat.le_of_ble_eq_true rfl, Nat.le_of_ble_eq_true rfl⟩ ⟨Nat.le_of_ble_eq_true rfl, Nat.le_of_ble_eq_true rfl⟩ rfl r9 ⟨_, _, rfl⟩ (by decide) rfl (Nat.le_of_ble_eq_true rfl) (mX4_set l D cy kd ln rh _ (M5 a0 4 (-1)) a1 a2 a3 a4 a5 M5 r9 h) dX6_best_33 (fun M10 h => ?_)
  refine q_aload_n C 1 rfl rfl dX6_best_36 ?_
  refine q_aload_n C 1 rfl rfl dX6_best_37 ?_
  refine q_get (v := gR (M10 a0 3 (-1))) C fX6_22 hk0 rfl dX6_best_38 (fun g13 => ?_)
  obtain ⟨r14, h⟩ := h
  refine q_nn r14 (by decide) ?_
  refine q_aload_n C 1 rfl rfl dX6_best_41 ?_
  refine q_get (v := gR (M10 a0 4 (-1))) C fX6_29 hk0 rfl dX6_best_42 (fun g15 => ?_)
  obtain ⟨r16, h⟩ := h
  refine q_nn r16 (by decide) ?_
  refine q_callVV (As := [.ref (gad (M10 a0 3 (-1))), .ref (gad (M10 a0 4 (-1)))]) (st := []) C vX6_110 kX6_gather ⟨Nat.le_of_ble_eq_true rfl, Nat.le_of_ble_eq_true rfl⟩ ⟨Nat.le_of_ble_eq_true rfl, Nat.le_of_ble_eq_true rfl⟩ rfl hk0 ⟨_, _, rfl⟩ (by decide) rfl (Nat.le_of_ble_eq_true rfl) (mX6_gather l D cy kd ln rh _ a0 (M10 a0 3 (-1)) (M10 a0 4 (-1)) M10 hk0 r14 r16 h) dX6_best_45 (fun M17 h => ?_)
  refine q_aload_n C 1 rfl rfl dX6_best_48 ?_
  refine q_get (v := gR (M17 a0 3 (-1))) C fX6_22 hk0 rfl dX6_best_49 (fun g20 => ?_)
  obtain ⟨r21, h⟩ := h
  refine q_nn r21 (by decide) ?_
  refine q_iload C 0 rfl dX6_best_52 ?_
  refine q_callSI (As := [.int (gI c6)]) (st := [.ref (gad (M17 a0 3 (-1)))]) C vX6_114 kX6_goalAfter ⟨Nat.le_of_ble_eq_true rfl, Nat.le_of_ble_eq_true rfl⟩ ⟨Nat.le_of_ble_eq_true rfl, Nat.le_of_ble_eq_true rfl⟩ rfl rfl (Nat.le_of_ble_eq_true rfl) (mX6_goalAfter l D cy kd ln rh _ c6 M17  h) dX6_best_54 (fun c23 M22 g24 h => ?_)
  have h := h g24
  refine q_callVV (As := [.int (gI c23)]) (st := []) C vX6_118 kX1_keep ⟨Nat.le_of_ble_eq_true rfl, Nat.le_of_ble_eq_true rfl⟩ ⟨Nat.le_of_ble_eq_true rfl, Nat.le_of_ble_eq_true rfl⟩ rfl r21 ⟨_, _, rfl⟩ (by decide) rfl (Nat.le_of_ble_eq_true rfl) (mX1_keep l D cy kd ln rh _ (M17 a0 3 (-1)) c23 M22 r21 h) dX6_best_57 (fun M25 h => ?_)
  refine q_aload_n C 1 rfl rfl dX6_best_60 ?_
  refine q_get (v := gR (M25 a0 3 (-1))) C fX6_22 hk0 rfl dX6_best_61 (fun g28 => ?_)
  obtain ⟨r29, h⟩ := h
  refine q_nn r29 (by decide) ?_
  refine q_get (v := .int (gI (M25 (M25 a0 3 (-1)) 0 (-1)))) C fX6_121 r29 rfl dX6_best_64 (fun g30 => ?_)
  have h := h g30
  exact hret (M25 (M25 a0 3 (-1)) 0 (-1)) M25 _ _ 1 6 (by decide) (by decide) dX6_best_67 g30 h
set_option maxHeartbeats 4000000 in
set_option maxRecDepth 100000 in
theorem mX6_demandTurn (l : Launch) (D : va_G) (cy : Nat → ClassId) (kd : gKd) (ln : gLn) (rh : gRh) (post : Int → gM → Prop) (px : gM → Prop) (a0 : Int) (a1 : Int) (a2 : Int) (M : gM) (hst : l.stackTraces = false) (hk0 : kd a0 = 6) (h : wX6_demandTurn kd ln post px a0 a1 a2 M) : gTR l D cy yX6_demandTurn cX6_demandTurn 3 RX5 7 118 [.ref (gad a0), .int (gI a1), .int (gI a2)] kd ln rh M post px := by
  refine gTR_of (own := RX6) (by decide) rfl (Nat.le_of_ble_eq_true rfl) hst rfl ?_
  intro p e s m args below meth c A H0 Q C hret hthr hexc
  have t19 : ∀ (M : gM), wX6_demandTurn_19 kd ln post px a0 a1 a2  M → gW p l e (gRt 7 118) s m args below meth c D cy A H0 Q 3 kd ln rh 0 0 M 19 [(0, .ref (gad a0)), (1, .int (gI a1))] [] := by
    intro   M h
    unfold wX6_demandTurn_19 at h
    refine q_aload_n C 0 rfl rfl dX6_demandTurn_19 ?_
    refine q_iload_n C 1 rfl rfl dX6_demandTurn_20 ?_
    refine q_callTR (As := [.int (gI a1)]) (st := []) C vX6_138 kX6_demandMade ⟨Nat.le_of_ble_eq_true rfl, Nat.le_of_ble_eq_true rfl⟩ ⟨Nat.le_of_ble_eq_true rfl, Nat.le_of_ble_eq_true rfl⟩ rfl hk0 ⟨_, _, rfl⟩ (by decide) rfl (Nat.le_of_ble_eq_true rfl) (mX6_demandMade l D cy kd ln rh _ _ a0 a1 M hst hk0 h) dX6_demandTurn_21 (fun M9 h => hexc M9 _ _ _ _ _ (by decide) (by decide) h) (fun c5 M4 h => ?_)
    exact hret c5 M4 _ _ 1 6 (by decide) (by decide) dX6_demandTurn_24 h
  unfold wX6_demandTurn at h
  refine q_iload_n C 2 rfl rfl dX6_demandTurn_0 ?_
  obtain ⟨r1, h⟩ := h
  refine q_if_eq (tgt := 19) C r1 (by decide) dX6_demandTurn_1 (fun b2 => ?_) (fun b2 => ?_)
  · have h := h.1 b2
    refine q_lv (lv' := [(0, .ref (gad a0)), (1, .int (gI a1))]) [0, 1] rfl ?_
    exact t19  M h
  · have h := h.2 b2
    refine q_iload_n C 2 rfl rfl dX6_demandTurn_4 ?_
    refine q_iconst C dX6_demandTurn_5 ?_
    refine q_icmp_eq (tgt := 19) C r1 (show rng 1 by decide) (by decide) dX6_demandTurn_6 (fun b3 => ?_) (fun b3 => ?_)
    · have h := h.1 b3
      refine q_lv (lv' := [(0, .ref (gad a0)), (1, .int (gI a1))]) [0, 1] rfl ?_
      exact t19  M h
    · have h := h.2 b3
      exact hthr (201, "no such turn", 24) M _ _ _ (by decide) dX6_demandTurn_9 dX6_demandTurn_12 dX6_demandTurn_13 dX6_demandTurn_15 dX6_demandTurn_18 (by decide) (Nat.le_of_ble_eq_true rfl) h
set_option maxHeartbeats 4000000 in
set_option maxRecDepth 100000 in
theorem mX6_count (l : Launch) (D : va_G) (cy : Nat → ClassId) (kd : gKd) (ln : gLn) (rh : gRh) (post : Int → gM → Prop) (px : gM → Prop) (a0 : Int) (a1 : Int) (a2 : Int) (a3 : Int) (M : gM) (hst : l.stackTraces = false) (hk0 : kd a0 = 6) (h : wX6_count kd ln post px a0 a1 a2 a3 M) : gTI l D cy yX6_count cX6_count 5 .int 8 140 [.ref (gad a0), .int (gI a1), .int (gI a2), .int (gI a3)] kd ln rh M post px := by
  refine gTI_of (own := RX6) (by decide) rfl (Nat.le_of_ble_eq_true rfl) hst rfl ?_
  intro p e s m args below meth c A H0 Q C hret hthr hexc
  unfold wX6_count at h
  refine q_aload_n C 0 rfl rfl dX6_count_0 ?_
  refine q_iload_n C 1 rfl rfl dX6_count_1 ?_
  refine q_iload_n C 2 rfl rfl dX6_count_2 ?_
  refine q_callTR (As := [.int (gI a1), .int (gI a2)]) (st := []) C vX6_145 kX6_demandTurn ⟨Nat.le_of_ble_eq_true rfl, Nat.le_of_ble_eq_true rfl⟩ ⟨Nat.le_of_ble_eq_true rfl, Nat.le_of_ble_eq_true rfl⟩ rfl hk0 ⟨_, _, rfl⟩ (by decide) rfl (Nat.le_of_ble_eq_true rfl) (mX6_demandTurn l D cy kd ln rh _ _ a0 a1 a2 M hst hk0 h) dX6_count_3 (fun M9 h => hexc M9 _ _ _ _ _ (by decide) (by decide) h) (fun c2 M1 h => ?_)
  refine q_astore (lv' := [(4, .ref (gad c2)), (0, .ref (gad a0)), (1, .int (gI a1)), (2, .int (gI a2)), (3, .int (gI a3))]) C (by decide) rfl dX6_count_6 ?_
  refine q_iload_n C 4 rfl rfl dX6_count_8 ?_
  obtain ⟨r4, h⟩ := h
  rcases (show (a3 < (-3) ∨ (-1) < a3) ∨ a3 = (-3) ∨ a3 = (-2) ∨ a3 = (-1) by omega) with b5 | b5 | b5 | b5
  · have h := h.1 b5
    refine q_tswOut (tgt := 58) C r4 b5 (by decide) dX6_count_9 ?_
    refine q_aload C 0 rfl dX6_count_58 ?_
    refine q_iload_n C 3 rfl rfl dX6_count_60 ?_
    refine q_iload_n C 4 rfl rfl dX6_count_61 ?_
    obtain ⟨r6, h⟩ := h
    refine q_callVI (As := [.int (gI a2), .int (gI a3)]) (st := []) C vX6_158 kX5_howManyAt ⟨Nat.le_of_ble_eq_true rfl, Nat.le_of_ble_eq_true rfl⟩ ⟨Nat.le_of_ble_eq_true rfl, Nat.le_of_ble_eq_true rfl⟩ rfl r6 ⟨_, _, rfl⟩ (by decide) rfl (Nat.le_of_ble_eq_true rfl) (mX5_howManyAt l D cy kd ln rh _ c2 a2 a3 M1 r6 h) dX6_count_62 (fun c8 M7 g9 h => ?_)
    have h := h g9
    exact hret c8 M7 _ _ 1 6 (by decide) (by decide) dX6_count_65 g9 h
  · have h := h.2.1 b5
    refine q_tswIn (tgt := 52) (off := 43) C r4 (by omega) (by omega) (by rw [b5]; rfl) (by decide) dX6_count_9 ?_
    refine q_aload C 0 rfl dX6_count_52 ?_
    obtain ⟨r10, h⟩ := h
    refine q_get (v := .int (gI (M1 c2 7 (-1)))) C fX6_155 r10 rfl dX6_count_54 (fun g11 => ?_)
    have h := h g11
    exact hret (M1 c2 7 (-1)) M1 _ _ 1 6 (by decide) (by decide) dX6_count_57 g11 h
  · have h := h.2.2.1 b5
    refine q_tswIn (tgt := 44) (off := 35) C r4 (by omega) (by omega) (by rw [b5]; rfl) (by decide) dX6_count_9 ?_
    refine q_aload C 0 rfl dX6_count_44 ?_
    obtain ⟨r12, h⟩ := h
    obtain ⟨r13, h⟩ := h
    refine q_get (v := .ref (rh c2 4)) C fX6_152 r12 (if_neg (Int.not_lt.mpr r13)) dX6_count_46 (fun g14 => ?_)
    refine q_iload_n C 3 rfl rfl dX6_count_49 ?_
    obtain ⟨r15, h⟩ := h
    refine q_iald C r12 rfl (fun _ q => q) r15 dX6_count_50 (fun g16 => ?_)
    have h := h g16
    exact hret (M1 c2 4 a2) M1 _ _ 1 6 (by decide) (by decide) dX6_count_51 g16 h
  · have h := h.2.2.2 b5
    refine q_tswIn (tgt := 36) (off := 27) C r4 (by omega) (by omega) (by rw [b5]; rfl) (by decide) dX6_count_9 ?_
    refine q_aload C 0 rfl dX6_count_36 ?_
    obtain ⟨r17, h⟩ := h
    obtain ⟨r18, h⟩ := h
    refine q_get (v := .ref (rh c2 3)) C fX6_149 r17 (if_neg (Int.not_lt.mpr r18)) dX6_count_38 (fun g19 => ?_)
    refine q_iload_n C 3 rfl rfl dX6_count_41 ?_
    obtain ⟨r20, h⟩ := h
    refine q_iald C r17 rfl (fun _ q => q) r20 dX6_count_42 (fun g21 => ?_)
    have h := h g21
    exact hret (M1 c2 3 a2) M1 _ _ 1 6 (by decide) (by decide) dX6_count_43 g21 h
set_option maxHeartbeats 4000000 in
set_option maxRecDepth 100000 in
theorem mX6_distance (l : Launch) (D : va_G) (cy : Nat → ClassId) (kd : gKd) (ln : gLn) (rh : gRh) (post : Int → gM → Prop) (px : gM → Prop) (a0 : Int) (a1 : Int) (a2 : Int) (a3 : Int) (a4 : Int) (a5 : Int) (M : gM) (hst : l.stackTraces = false) (hk0 : kd a0 = 6) (h : wX6_distance kd ln post px a0 a1 a2 a3 a4 a5 M) : gTI l D cy yX6_distance cX6_distance 6 .int 8 143 [.ref (gad a0), .int (gI a1), .int (gI a2), .int (gI a3), .int (gI a4), .int (gI a5)] kd ln rh M post px := by
  refine gTI_of (own := RX6) (by decide) rfl (Nat.le_of_ble_eq_true rfl) hst rfl ?_
  intro p e s m args below meth c A H0 Q C hret hthr hexc
  unfold wX6_distance at h
  refine q_aload_n C 0 rfl rfl dX6_distance_0 ?_
  refine q_iload_n C 1 rfl rfl dX6_distance_1 ?_
  refine q_iload_n C 2 rfl rfl dX6_distance_2 ?_
  refine q_iload_n C 3 rfl rfl dX6_distance_3 ?_
  refine q_iload C 4 rfl dX6_distance_4 ?_
  refine q_iload C 5 rfl dX6_distance_6 ?_
  refine q_callTR (As := [.int (gI a1), .int (gI a2), .int (gI a3), .int (gI a4), .int (gI a5)]) (st := []) C vX6_98 kX6_demandTable ⟨Nat.le_of_ble_eq_true rfl, Nat.le_of_ble_eq_true rfl⟩ ⟨Nat.le_of_ble_eq_true rfl, Nat.le_of_ble_eq_true rfl⟩ rfl hk0 ⟨_, _, rfl⟩ (by decide) rfl (Nat.le_of_ble_eq_true rfl) (mX6_demandTable l D cy kd ln rh _ _ a0 a1 a2 a3 a4 a5 M hst hk0 h) dX6_distance_8 (fun M9 h => hexc M9 _ _ _ _ _ (by decide) (by decide) h) (fun c2 M1 h => ?_)
  refine q_iload_n C 2 rfl rfl dX6_distance_11 ?_
  refine q_iload_n C 3 rfl rfl dX6_distance_12 ?_
  refine q_iload C 4 rfl dX6_distance_13 ?_
  refine q_iload C 5 rfl dX6_distance_15 ?_
  obtain ⟨r4, h⟩ := h
  refine q_callVI (As := [.int (gI a2), .int (gI a3), .int (gI a4), .int (gI a5)]) (st := []) C vX6_102 kX5_look ⟨Nat.le_of_ble_eq_true rfl, Nat.le_of_ble_eq_true rfl⟩ ⟨Nat.le_of_ble_eq_true rfl, Nat.le_of_ble_eq_true rfl⟩ rfl r4 ⟨_, _, rfl⟩ (by decide) rfl (Nat.le_of_ble_eq_true rfl) (mX5_look l D cy kd ln rh _ c2 a2 a3 a4 a5 M1 r4 h) dX6_distance_17 (fun c6 M5 g7 h => ?_)
  have h := h g7
  exact hret c6 M5 _ _ 1 6 (by decide) (by decide) dX6_distance_20 g7 h
set_option maxHeartbeats 4000000 in
set_option maxRecDepth 100000 in
theorem mX6_feed (l : Launch) (D : va_G) (cy : Nat → ClassId) (kd : gKd) (ln : gLn) (rh : gRh) (post : Int → gM → Prop) (a0 : Int) (a1 : Int) (a2 : Int) (a3 : Int) (a4 : Int) (a5 : Int) (M : gM) (hk0 : kd a0 = 6) (h : wX6_feed kd ln post a0 a1 a2 a3 a4 a5 M) : gMI l D cy yX6_feed cX6_feed 6 .int 1 22 [.ref (gad a0), .int (gI a1), .int (gI a2), .int (gI a3), .int (gI a4), .int (gI a5)] kd ln rh M post := by
  refine gMI_of (own := RX6) (by decide) rfl (Nat.le_of_ble_eq_true rfl) ?_
  intro p e s m args below meth c A H0 Q C hret
  unfold wX6_feed at h
  refine q_aload_n C 0 rfl rfl dX6_feed_0 ?_
  refine q_get (v := .int (gI (M a0 10 (-1)))) C fX6_167 hk0 rfl dX6_feed_1 (fun g1 => ?_)
  have h := h g1
  refine q_bipush C (by decide) dX6_feed_4 ?_
  refine q_iadd C dX6_feed_6 ?_
  refine q_bipush C (by decide) dX6_feed_7 ?_
  obtain ⟨r2, h⟩ := h
  refine q_icmp_le (tgt := 14) C r2 (show rng 40 by decide) (by decide) dX6_feed_9 (fun b3 => ?_) (fun b3 => ?_)
  · have h := h.1 b3
    refine q_aload_n C 0 rfl rfl dX6_feed_14 ?_
    refine q_iload_n C 1 rfl rfl dX6_feed_15 ?_
    refine q_callVV (As := [.int (gI a1)]) (st := []) C vX6_170 kX6_addToTape ⟨Nat.le_of_ble_eq_true rfl, Nat.le_of_ble_eq_true rfl⟩ ⟨Nat.le_of_ble_eq_true rfl, Nat.le_of_ble_eq_true rfl⟩ rfl hk0 ⟨_, _, rfl⟩ (by decide) rfl (Nat.le_of_ble_eq_true rfl) (mX6_addToTape l D cy kd ln rh _ a0 a1 M hk0 h) dX6_feed_16 (fun M4 h => ?_)
    refine q_aload_n C 0 rfl rfl dX6_feed_19 ?_
    refine q_iload_n C 2 rfl rfl dX6_feed_20 ?_
    refine q_callVV (As := [.int (gI a2)]) (st := []) C vX6_170 kX6_addToTape ⟨Nat.le_of_ble_eq_true rfl, Nat.le_of_ble_eq_true rfl⟩ ⟨Nat.le_of_ble_eq_true rfl, Nat.le_of_ble_eq_true rfl⟩ rfl hk0 ⟨_, _, rfl⟩ (by decide) rfl (Nat.le_of_ble_eq_true rfl) (mX6_addToTape l D cy kd ln rh _ a0 a2 M4 hk0 h) dX6_feed_21 (fun M7 h => ?_)
    refine q_aload_n C 0 rfl rfl dX6_feed_24 ?_
    refine q_iload_n C 3 rfl rfl dX6_feed_25 ?_
    refine q_callVV (As := [.int (gI a3)]) (st := []) C vX6_170 kX6_addToTape ⟨Nat.le_of_ble_eq_true rfl, Nat.le_of_ble_eq_true rfl⟩ ⟨Nat.le_of_ble_eq_true rfl, Nat.le_of_ble_eq_true rfl⟩ rfl hk0 ⟨_, _, rfl⟩ (by decide) rfl (Nat.le_of_ble_eq_true rfl) (mX6_addToTape l D cy kd ln rh _ a0 a3 M7 hk0 h) dX6_feed_26 (fun M10 h => ?_)
    refine q_aload_n C 0 rfl rfl dX6_feed_29 ?_
    refine q_iload C 4 rfl dX6_feed_30 ?_
    refine q_callVV (As := [.int (gI a4)]) (st := []) C vX6_170 kX6_addToTape ⟨Nat.le_of_ble_eq_true rfl, Nat.le_of_ble_eq_true rfl⟩ ⟨Nat.le_of_ble_eq_true rfl, Nat.le_of_ble_eq_true rfl⟩ rfl hk0 ⟨_, _, rfl⟩ (by decide) rfl (Nat.le_of_ble_eq_true rfl) (mX6_addToTape l D cy kd ln rh _ a0 a4 M10 hk0 h) dX6_feed_32 (fun M13 h => ?_)
    refine q_aload_n C 0 rfl rfl dX6_feed_35 ?_
    refine q_iload C 5 rfl dX6_feed_36 ?_
    refine q_callVV (As := [.int (gI a5)]) (st := []) C vX6_170 kX6_addToTape ⟨Nat.le_of_ble_eq_true rfl, Nat.le_of_ble_eq_true rfl⟩ ⟨Nat.le_of_ble_eq_true rfl, Nat.le_of_ble_eq_true rfl⟩ rfl hk0 ⟨_, _, rfl⟩ (by decide) rfl (Nat.le_of_ble_eq_true rfl) (mX6_addToTape l D cy kd ln rh _ a0 a5 M13 hk0 h) dX6_feed_38 (fun M16 h => ?_)
    refine q_aload_n C 0 rfl rfl dX6_feed_41 ?_
    refine q_get (v := .int (gI (M16 a0 10 (-1)))) C fX6_167 hk0 rfl dX6_feed_42 (fun g19 => ?_)
    have h := h g19
    exact hret (M16 a0 10 (-1)) M16 _ _ dX6_feed_45 g19 h
  · have h := h.2 b3
    refine q_iconst C dX6_feed_12 ?_
    exact hret (-1) M _ _ dX6_feed_13 (show rng (-1) by decide) h
set_option maxHeartbeats 4000000 in
set_option maxRecDepth 100000 in
theorem mX6_isLegal (l : Launch) (D : va_G) (cy : Nat → ClassId) (kd : gKd) (ln : gLn) (rh : gRh) (post : Int → gM → Prop) (a0 : Int) (a1 : Int) (a2 : Int) (a3 : Int) (a4 : Int) (a5 : Int) (M : gM) (hk0 : kd a0 = 6) (h : wX6_isLegal kd ln post a0 a1 a2 a3 a4 a5 M) : gMI l D cy yX6_isLegal cX6_isLegal 6 .boolean 3 72 [.ref (gad a0), .int (gI a1), .int (gI a2), .int (gI a3), .int (gI a4), .int (gI a5)] kd ln rh M post := by
  refine gMI_ofZ (own := RX6) (by decide) rfl (Nat.le_of_ble_eq_true rfl) ?_
  intro p e s m args below meth c A H0 Q C hret
  unfold wX6_isLegal at h
  refine q_aload_n C 0 rfl rfl dX6_isLegal_0 ?_
  refine q_get (v := gR (M a0 1 (-1))) C fX6_52 hk0 rfl dX6_isLegal_1 (fun g1 => ?_)
  obtain ⟨r2, h⟩ := h
  refine q_nn r2 (by decide) ?_
  refine q_iload_n C 1 rfl rfl dX6_isLegal_4 ?_
  refine q_iload_n C 2 rfl rfl dX6_isLegal_5 ?_
  refine q_iload_n C 3 rfl rfl dX6_isLegal_6 ?_
  refine q_iload C 4 rfl dX6_isLegal_7 ?_
  refine q_iload C 5 rfl dX6_isLegal_9 ?_
  refine q_callVI (As := [.int (gI a1), .int (gI a2), .int (gI a3), .int (gI a4), .int (gI a5)]) (st := []) C vX6_70 kX0_allows ⟨Nat.le_of_ble_eq_true rfl, Nat.le_of_ble_eq_true rfl⟩ ⟨Nat.le_of_ble_eq_true rfl, Nat.le_of_ble_eq_true rfl⟩ rfl r2 ⟨_, _, rfl⟩ (by decide) rfl (Nat.le_of_ble_eq_true rfl) (mX0_allows l D cy kd ln rh _ (M a0 1 (-1)) a1 a2 a3 a4 a5 M r2 h) dX6_isLegal_11 (fun c4 M3 g5 h => ?_)
  have h := h g5
  obtain ⟨r6, h⟩ := h
  exact hret c4 M3 _ _ dX6_isLegal_14 r6 h
set_option maxHeartbeats 4000000 in
set_option maxRecDepth 100000 in
theorem mX6_letterAt (l : Launch) (D : va_G) (cy : Nat → ClassId) (kd : gKd) (ln : gLn) (rh : gRh) (post : Int → gM → Prop) (a0 : Nat) (a1 : Int) (M : gM) (hk0 : a0 < 2) (h : wX6_letterAt kd ln post a0 a1 M) : gMI l D cy yX6_letterAt cX6_letterAt 3 .int 0 0 [.ref (cy (20 + a0)), .int (gI a1)] kd ln rh M post := by
  refine gMI_of (own := RX6) (by decide) rfl (Nat.le_of_ble_eq_true rfl) ?_
  intro p e s m args below meth c A H0 Q C hret
  have t2 : ∀ (n : Nat) (x2 : Int) (M : gM), wX6_letterAt_2 kd ln post a0 a1 n x2 M → gW p l e (gRm 0 0) s m args below meth c D cy A H0 Q 3 kd ln rh 0 0 M 2 [(0, .ref (cy (20 + a0))), (1, .int (gI a1)), (2, .int (gI x2))] [] := by
    intro n
    induction n with
    | zero => intro x2 M h; exact absurd h (by simp [wX6_letterAt_2])
    | succ n ih =>
      intro x2 M h
      have hk2_ := ih
      rw [wX6_letterAt_2] at h
      refine q_iload_n C 2 rfl rfl dX6_letterAt_2 ?_
      refine q_aload_n C 0 rfl rfl dX6_letterAt_3 ?_
      refine q_clen C hk0 dX6_letterAt_4 ?_
      obtain ⟨r1, h⟩ := h
      obtain ⟨r2, h⟩ := h
      refine q_icmp_ge (tgt := 23) C r1 r2 (by decide) dX6_letterAt_5 (fun b3 => ?_) (fun b3 => ?_)
      · have h := h.1 b3
        refine q_iconst C dX6_letterAt_23 ?_
        exact hret (-1) M _ _ dX6_letterAt_24 (show rng (-1) by decide) h
      · have h := h.2 b3
        refine q_aload_n C 0 rfl rfl dX6_letterAt_8 ?_
        refine q_iload_n C 2 rfl rfl dX6_letterAt_9 ?_
        obtain ⟨r4, h⟩ := h
        refine q_cald C hk0 r4 dX6_letterAt_10 (fun g5 => ?_)
        have h := h g5
        refine q_iload_n C 1 rfl rfl dX6_letterAt_11 ?_
        obtain ⟨r6, h⟩ := h
        refine q_icmp_ne (tgt := 17) C g5 r6 (by decide) dX6_letterAt_12 (fun b7 => ?_) (fun b7 => ?_)
        · have h := h.1 b7
          refine q_iinc (lv' := [(2, .int (gI (x2 + 1))), (0, .ref (cy (20 + a0))), (1, .int (gI a1))]) C 2 rfl (by decide) rfl dX6_letterAt_17 ?_
          refine q_goto (tgt := 2) C (by decide) dX6_letterAt_20 ?_
          refine q_lv (lv' := [(0, .ref (cy (20 + a0))), (1, .int (gI a1)), (2, .int (gI (x2 + 1)))]) [1, 2, 0] rfl ?_
          exact hk2_ (x2 + 1) M h
        · have h := h.2 b7
          refine q_iload_n C 2 rfl rfl dX6_letterAt_15 ?_
          exact hret x2 M _ _ dX6_letterAt_16 r1 h
  unfold wX6_letterAt at h
  refine q_iconst C dX6_letterAt_0 ?_
  refine q_istore_n (lv' := [(2, .int (gI 0)), (0, .ref (cy (20 + a0))), (1, .int (gI a1))]) C rfl (by decide) rfl dX6_letterAt_1 ?_
  refine q_lv (lv' := [(0, .ref (cy (20 + a0))), (1, .int (gI a1)), (2, .int (gI 0))]) [1, 2, 0] rfl ?_
  obtain ⟨j2, h⟩ := h
  exact t2  j2 0 M h
set_option maxHeartbeats 4000000 in
set_option maxRecDepth 100000 in
theorem mX6_squareOfText (l : Launch) (D : va_G) (cy : Nat → ClassId) (kd : gKd) (ln : gLn) (rh : gRh) (post : Int → gM → Prop) (a0 : Int) (a1 : Int) (M : gM) (hk0 : kd a0 = 6) (h : wX6_squareOfText kd ln post a0 a1 M) : gMI l D cy yX6_squareOfText cX6_squareOfText 5 .int 0 0 [.ref (gad a0), .int (gI a1)] kd ln rh M post := by
  refine gMI_of (own := RX6) (by decide) rfl (Nat.le_of_ble_eq_true rfl) ?_
  intro p e s m args below meth c A H0 Q C hret
  have t57 : ∀ (x2 : Int) (x3 : Int) (y0 : Int) (M : gM), wX6_squareOfText_57 kd ln post a0 a1 x2 x3 y0 M → gW p l e (gRm 0 0) s m args below meth c D cy A H0 Q 5 kd ln rh 0 0 M 57 [(0, .ref (gad a0)), (2, .int (gI x2)), (3, .int (gI x3))] [.int (gI y0)] := by
    intro  x2 x3 y0 M h
    unfold wX6_squareOfText_57 at h
    refine q_istore (lv' := [(4, .int (gI y0)), (0, .ref (gad a0)), (2, .int (gI x2)), (3, .int (gI x3))]) C (by decide) rfl dX6_squareOfText_57 ?_
    refine q_iload C 0 rfl dX6_squareOfText_59 ?_
    obtain ⟨r21, h⟩ := h
    refine q_if_eq (tgt := 78) C r21 (by decide) dX6_squareOfText_61 (fun b22 => ?_) (fun b22 => ?_)
    · have h := h.1 b22
      refine q_iconst C dX6_squareOfText_78 ?_
      exact hret (-1) M _ _ dX6_squareOfText_79 (show rng (-1) by decide) h
    · have h := h.2 b22
      refine q_aload_n C 1 rfl rfl dX6_squareOfText_64 ?_
      refine q_get (v := gR (M a0 1 (-1))) C fX6_52 hk0 rfl dX6_squareOfText_65 (fun g23 => ?_)
      obtain ⟨r24, h⟩ := h
      refine q_nn r24 (by decide) ?_
      refine q_get (v := .int (gI (M (M a0 1 (-1)) 0 (-1)))) C fX6_87 r24 rfl dX6_squareOfText_68 (fun g25 => ?_)
      have h := h g25
      refine q_iload_n C 3 rfl rfl dX6_squareOfText_71 ?_
      refine q_imul C dX6_squareOfText_72 ?_
      refine q_iload_n C 2 rfl rfl dX6_squareOfText_73 ?_
      refine q_iadd C dX6_squareOfText_74 ?_
      refine q_goto (tgt := 79) C (by decide) dX6_squareOfText_75 ?_
      obtain ⟨r26, h⟩ := h
      exact hret (((M (M a0 1 (-1)) 0 (-1)) * x3) + x2) M _ _ dX6_squareOfText_79 r26 h
  have t56 : ∀ (x2 : Int) (x3 : Int) (M : gM), wX6_squareOfText_56 kd ln post a0 a1 x2 x3 M → gW p l e (gRm 0 0) s m args below meth c D cy A H0 Q 5 kd ln rh 0 0 M 56 [(0, .ref (gad a0)), (2, .int (gI x2)), (3, .int (gI x3))] [] := by
    intro  x2 x3 M h
    unfold wX6_squareOfText_56 at h
    refine q_iconst C dX6_squareOfText_56 ?_
    exact t57  x2 x3 0 M h
  unfold wX6_squareOfText at h
  refine q_aload_n C 0 rfl rfl dX6_squareOfText_0 ?_
  obtain ⟨r1, h⟩ := h
  refine q_get (v := .ref (rh a0 9)) C fX6_43 hk0 (if_neg (Int.not_lt.mpr r1)) dX6_squareOfText_1 (fun g2 => ?_)
  refine q_iload_n C 1 rfl rfl dX6_squareOfText_4 ?_
  obtain ⟨r3, h⟩ := h
  refine q_iald C hk0 rfl (fun _ q => q) r3 dX6_squareOfText_5 (fun g4 => ?_)
  have h := h g4
  refine q_bipush C (by decide) dX6_squareOfText_6 ?_
  refine q_isub C dX6_squareOfText_8 ?_
  refine q_topi (fun v5 ev5 => ?_)
  have h := h v5 ev5
  refine q_istore_n (lv' := [(2, .int (gI v5)), (0, .ref (gad a0)), (1, .int (gI a1))]) C rfl (by decide) rfl dX6_squareOfText_9 ?_
  refine q_aload_n C 1 rfl rfl dX6_squareOfText_10 ?_
  refine q_get (v := .ref (rh a0 9)) C fX6_43 hk0 (if_neg (Int.not_lt.mpr r1)) dX6_squareOfText_11 (fun g6 => ?_)
  refine q_iload_n C 2 rfl rfl dX6_squareOfText_14 ?_
  refine q_iconst C dX6_squareOfText_15 ?_
  refine q_iadd C dX6_squareOfText_16 ?_
  obtain ⟨r7, h⟩ := h
  refine q_iald C hk0 rfl (fun _ q => q) r7 dX6_squareOfText_17 (fun g8 => ?_)
  have h := h g8
  refine q_bipush C (by decide) dX6_squareOfText_18 ?_
  refine q_isub C dX6_squareOfText_20 ?_
  refine q_topi (fun v9 ev9 => ?_)
  have h := h v9 ev9
  refine q_istore_n (lv' := [(3, .int (gI v9)), (2, .int (gI v5)), (0, .ref (gad a0)), (1, .int (gI a1))]) C rfl (by decide) rfl dX6_squareOfText_21 ?_
  refine q_iload_n C 1 rfl rfl dX6_squareOfText_22 ?_
  obtain ⟨r10, h⟩ := h
  refine q_if_lt (tgt := 56) C r10 (by decide) dX6_squareOfText_23 (fun b11 => ?_) (fun b11 => ?_)
  · have h := h.1 b11
    refine q_lv (lv' := [(0, .ref (gad a0)), (2, .int (gI v5)), (3, .int (gI v9))]) [2, 1, 0] rfl ?_
    exact t56  v5 v9 M h
  · have h := h.2 b11
    refine q_iload_n C 1 rfl rfl dX6_squareOfText_26 ?_
    refine q_aload_n C 2 rfl rfl dX6_squareOfText_27 ?_
    refine q_get (v := gR (M a0 1 (-1))) C fX6_52 hk0 rfl dX6_squareOfText_28 (fun g12 => ?_)
    obtain ⟨r13, h⟩ := h
    refine q_nn r13 (by decide) ?_
    refine q_get (v := .int (gI (M (M a0 1 (-1)) 0 (-1)))) C fX6_87 r13 rfl dX6_squareOfText_31 (fun g14 => ?_)
    have h := h g14
    refine q_icmp_ge (tgt := 56) C r10 g14 (by decide) dX6_squareOfText_34 (fun b15 => ?_) (fun b15 => ?_)
    · have h := h.1 b15
      refine q_lv (lv' := [(0, .ref (gad a0)), (2, .int (gI v5)), (3, .int (gI v9))]) [2, 1, 0] rfl ?_
      exact t56  v5 v9 M h
    · have h := h.2 b15
      refine q_iload_n C 0 rfl rfl dX6_squareOfText_37 ?_
      obtain ⟨r16, h⟩ := h
      refine q_if_lt (tgt := 56) C r16 (by decide) dX6_squareOfText_38 (fun b17 => ?_) (fun b17 => ?_)
      · have h := h.1 b17
        refine q_lv (lv' := [(0, .ref (gad a0)), (2, .int (gI v5)), (3, .int (gI v9))]) [2, 1, 0] rfl ?_
        exact t56  v5 v9 M h
      · have h := h.2 b17
        refine q_iload_n C 0 rfl rfl dX6_squareOfText_41 ?_
        refine q_aload_n C 2 rfl rfl dX6_squareOfText_42 ?_
        refine q_get (v := gR (M a0 1 (-1))) C fX6_52 hk0 rfl dX6_squareOfText_43 (fun g18 => ?_)
        refine q_nn r13 (by decide) ?_
        refine q_get (v := .int (gI (M (M a0 1 (-1)) 0 (-1)))) C fX6_87 r13 rfl dX6_squareOfText_46 (fun g19 => ?_)
        refine q_icmp_ge (tgt := 56) C r16 g14 (by decide) dX6_squareOfText_49 (fun b20 => ?_) (fun b20 => ?_)
        · have h := h.1 b20
          refine q_lv (lv' := [(0, .ref (gad a0)), (2, .int (gI v5)), (3, .int (gI v9))]) [2, 1, 0] rfl ?_
          exact t56  v5 v9 M h
        · have h := h.2 b20
          refine q_iconst C dX6_squareOfText_52 ?_
          refine q_goto (tgt := 57) C (by decide) dX6_squareOfText_53 ?_
          refine q_lv (lv' := [(0, .ref (gad a0)), (2, .int (gI v5)), (3, .int (gI v9))]) [2, 1, 0] rfl ?_
          exact t57  v5 v9 1 M h
set_option maxHeartbeats 4000000 in
set_option maxRecDepth 100000 in
theorem mX6_keyOfText (l : Launch) (D : va_G) (cy : Nat → ClassId) (kd : gKd) (ln : gLn) (rh : gRh) (post : Int → gM → Prop) (a0 : Int) (M : gM) (hk0 : kd a0 = 6) (h : wX6_keyOfText kd ln post a0 M) : gMI l D cy yX6_keyOfText cX6_keyOfText 8 .int 3 72 [.ref (gad a0)] kd ln rh M post := by
  refine gMI_of (own := RX6) (by decide) rfl (Nat.le_of_ble_eq_true rfl) ?_
  intro p e s m args below meth c A H0 Q C hret
  have t111 : ∀ (x1 : Int) (x2 : Int) (x3 : Int) (x4 : Int) (x5 : Int) (y0 : Int) (M : gM), wX6_keyOfText_111 kd ln post a0 x1 x2 x3 x4 x5 y0 M → gW p l e (gRm 3 72) s m args below meth c D cy A H0 Q 8 kd ln rh 0 0 M 111 [(0, .ref (gad a0)), (1, .int (gI x1)), (2, .int (gI x2)), (3, .int (gI x3)), (4, .int (gI x4)), (5, .int (gI x5))] [.int (gI y0)] := by
    intro  x1 x2 x3 x4 x5 y0 M h
    unfold wX6_keyOfText_111 at h
    refine q_istore (lv' := [(6, .int (gI y0)), (0, .ref (gad a0)), (1, .int (gI x1)), (2, .int (gI x2)), (3, .int (gI x3)), (4, .int (gI x4)), (5, .int (gI x5))]) C (by decide) rfl dX6_keyOfText_111 ?_
    refine q_iload C 0 rfl dX6_keyOfText_113 ?_
    obtain ⟨r43, h⟩ := h
    refine q_if_eq (tgt := 135) C r43 (by decide) dX6_keyOfText_115 (fun b44 => ?_) (fun b44 => ?_)
    · have h := h.1 b44
      refine q_iconst C dX6_keyOfText_135 ?_
      exact hret (-1) M _ _ dX6_keyOfText_136 (show rng (-1) by decide) h
    · have h := h.2 b44
      refine q_aload_n C 1 rfl rfl dX6_keyOfText_118 ?_
      refine q_get (v := gR (M a0 1 (-1))) C fX6_52 hk0 rfl dX6_keyOfText_119 (fun g45 => ?_)
      obtain ⟨r46, h⟩ := h
      refine q_nn r46 (by decide) ?_
      refine q_iload_n C 2 rfl rfl dX6_keyOfText_122 ?_
      refine q_iload_n C 4 rfl rfl dX6_keyOfText_123 ?_
      refine q_iload C 6 rfl dX6_keyOfText_124 ?_
      refine q_iload C 5 rfl dX6_keyOfText_126 ?_
      refine q_iload_n C 3 rfl rfl dX6_keyOfText_128 ?_
      refine q_callVI (As := [.int (gI x1), .int (gI x3), .int (gI x5), .int (gI x4), .int (gI x2)]) (st := []) C vX6_70 kX0_allows ⟨Nat.le_of_ble_eq_true rfl, Nat.le_of_ble_eq_true rfl⟩ ⟨Nat.le_of_ble_eq_true rfl, Nat.le_of_ble_eq_true rfl⟩ rfl r46 ⟨_, _, rfl⟩ (by decide) rfl (Nat.le_of_ble_eq_true rfl) (mX0_allows l D cy kd ln rh _ (M a0 1 (-1)) x1 x3 x5 x4 x2 M r46 h) dX6_keyOfText_129 (fun c48 M47 g49 h => ?_)
      have h := h g49
      refine q_if_ne (tgt := 137) C g49 (by decide) dX6_keyOfText_132 (fun b50 => ?_) (fun b50 => ?_)
      · have h := h.1 b50
        refine q_aload_n C 1 rfl rfl dX6_keyOfText_137 ?_
        refine q_get (v := gR (M47 a0 1 (-1))) C fX6_52 hk0 rfl dX6_keyOfText_138 (fun g51 => ?_)
        obtain ⟨r52, h⟩ := h
        refine q_nn r52 (by decide) ?_
        refine q_get (v := .int (gI (M47 (M47 a0 1 (-1)) 1 (-1)))) C fX6_251 r52 rfl dX6_keyOfText_141 (fun g53 => ?_)
        have h := h g53
        refine q_topi (fun v54 ev54 => ?_)
        have h := h v54 ev54
        have gv54 : rng v54 := by rw [ev54]; exact g53
        refine q_istore (lv' := [(7, .int (gI v54)), (6, .int (gI y0)), (0, .ref (gad a0)), (1, .int (gI x1)), (2, .int (gI x2)), (3, .int (gI x3)), (4, .int (gI x4)), (5, .int (gI x5))]) C (by decide) rfl dX6_keyOfText_144 ?_
        refine q_iconst C dX6_keyOfText_146 ?_
        refine q_iload_n C 3 rfl rfl dX6_keyOfText_147 ?_
        refine q_iload C 0 rfl dX6_keyOfText_148 ?_
        refine q_imul C dX6_keyOfText_150 ?_
        refine q_iload_n C 5 rfl rfl dX6_keyOfText_151 ?_
        refine q_iadd C dX6_keyOfText_152 ?_
        refine q_iload C 0 rfl dX6_keyOfText_153 ?_
        refine q_imul C dX6_keyOfText_155 ?_
        refine q_iload C 7 rfl dX6_keyOfText_156 ?_
        refine q_iadd C dX6_keyOfText_158 ?_
        refine q_iload C 0 rfl dX6_keyOfText_159 ?_
        refine q_imul C dX6_keyOfText_161 ?_
        refine q_iload C 6 rfl dX6_keyOfText_162 ?_
        refine q_iadd C dX6_keyOfText_164 ?_
        refine q_imul C dX6_keyOfText_165 ?_
        refine q_iload_n C 4 rfl rfl dX6_keyOfText_166 ?_
        refine q_iadd C dX6_keyOfText_167 ?_
        obtain ⟨r55, h⟩ := h
        exact hret ((2 * ((((((x1 * v54) + x3) * v54) + x5) * v54) + x4)) + x2) M47 _ _ dX6_keyOfText_168 r55 h
      · have h := h.2 b50
        refine q_iconst C dX6_keyOfText_135 ?_
        exact hret (-1) M47 _ _ dX6_keyOfText_136 (show rng (-1) by decide) h
  have t110 : ∀ (x1 : Int) (x2 : Int) (x3 : Int) (x4 : Int) (x5 : Int) (M : gM), wX6_keyOfText_110 kd ln post a0 x1 x2 x3 x4 x5 M → gW p l e (gRm 3 72) s m args below meth c D cy A H0 Q 8 kd ln rh 0 0 M 110 [(0, .ref (gad a0)), (1, .int (gI x1)), (2, .int (gI x2)), (3, .int (gI x3)), (4, .int (gI x4)), (5, .int (gI x5))] [] := by
    intro  x1 x2 x3 x4 x5 M h
    unfold wX6_keyOfText_110 at h
    refine q_iconst C dX6_keyOfText_110 ?_
    exact t111  x1 x2 x3 x4 x5 0 M h
  unfold wX6_keyOfText at h
  refine q_gets (t := 0) C (Or.inl ⟨rfl, rfl⟩) zX6_180 dX6_keyOfText_0 ?_
  refine q_aload_n C 0 rfl rfl dX6_keyOfText_3 ?_
  obtain ⟨r1, h⟩ := h
  refine q_get (v := .ref (rh a0 9)) C fX6_43 hk0 (if_neg (Int.not_lt.mpr r1)) dX6_keyOfText_4 (fun g2 => ?_)
  refine q_iconst C dX6_keyOfText_7 ?_
  obtain ⟨r3, h⟩ := h
  refine q_iald C hk0 rfl (fun _ q => q) r3 dX6_keyOfText_8 (fun g4 => ?_)
  have h := h g4
  refine q_callSI (As := [.ref (cy (20 + 0)), .int (gI (M a0 9 4))]) (st := []) C vX6_244 kX6_letterAt ⟨Nat.le_of_ble_eq_true rfl, Nat.le_of_ble_eq_true rfl⟩ ⟨Nat.le_of_ble_eq_true rfl, Nat.le_of_ble_eq_true rfl⟩ rfl rfl (Nat.le_of_ble_eq_true rfl) (mX6_letterAt l D cy kd ln rh _ 0 (M a0 9 4) M (by decide) h) dX6_keyOfText_9 (fun c6 M5 g7 h => ?_)
  have h := h g7
  refine q_istore_n (lv' := [(1, .int (gI c6)), (0, .ref (gad a0))]) C rfl (by decide) rfl dX6_keyOfText_12 ?_
  refine q_gets (t := 1) C (Or.inr ⟨rfl, rfl⟩) zX6_184 dX6_keyOfText_13 ?_
  refine q_aload_n C 1 rfl rfl dX6_keyOfText_16 ?_
  refine q_get (v := .ref (rh a0 9)) C fX6_43 hk0 (if_neg (Int.not_lt.mpr r1)) dX6_keyOfText_17 (fun g8 => ?_)
  refine q_bipush C (by decide) dX6_keyOfText_20 ?_
  obtain ⟨r9, h⟩ := h
  refine q_iald C hk0 rfl (fun _ q => q) r9 dX6_keyOfText_22 (fun g10 => ?_)
  have h := h g10
  refine q_callSI (As := [.ref (cy (20 + 1)), .int (gI (M5 a0 9 12))]) (st := []) C vX6_244 kX6_letterAt ⟨Nat.le_of_ble_eq_true rfl, Nat.le_of_ble_eq_true rfl⟩ ⟨Nat.le_of_ble_eq_true rfl, Nat.le_of_ble_eq_true rfl⟩ rfl rfl (Nat.le_of_ble_eq_true rfl) (mX6_letterAt l D cy kd ln rh _ 1 (M5 a0 9 12) M5 (by decide) h) dX6_keyOfText_23 (fun c12 M11 g13 h => ?_)
  have h := h g13
  refine q_istore_n (lv' := [(2, .int (gI c12)), (1, .int (gI c6)), (0, .ref (gad a0))]) C rfl (by decide) rfl dX6_keyOfText_26 ?_
  refine q_aload_n C 2 rfl rfl dX6_keyOfText_27 ?_
  refine q_iconst C dX6_keyOfText_28 ?_
  refine q_callVI (As := [.int (gI 1)]) (st := []) C vX6_248 kX6_squareOfText ⟨Nat.le_of_ble_eq_true rfl, Nat.le_of_ble_eq_true rfl⟩ ⟨Nat.le_of_ble_eq_true rfl, Nat.le_of_ble_eq_true rfl⟩ rfl hk0 ⟨_, _, rfl⟩ (by decide) rfl (Nat.le_of_ble_eq_true rfl) (mX6_squareOfText l D cy kd ln rh _ a0 1 M11 hk0 h) dX6_keyOfText_29 (fun c15 M14 g16 h => ?_)
  have h := h g16
  refine q_istore_n (lv' := [(3, .int (gI c15)), (2, .int (gI c12)), (1, .int (gI c6)), (0, .ref (gad a0))]) C rfl (by decide) rfl dX6_keyOfText_32 ?_
  refine q_aload_n C 3 rfl rfl dX6_keyOfText_33 ?_
  refine q_iconst C dX6_keyOfText_34 ?_
  refine q_callVI (As := [.int (gI 5)]) (st := []) C vX6_248 kX6_squareOfText ⟨Nat.le_of_ble_eq_true rfl, Nat.le_of_ble_eq_true rfl⟩ ⟨Nat.le_of_ble_eq_true rfl, Nat.le_of_ble_eq_true rfl⟩ rfl hk0 ⟨_, _, rfl⟩ (by decide) rfl (Nat.le_of_ble_eq_true rfl) (mX6_squareOfText l D cy kd ln rh _ a0 5 M14 hk0 h) dX6_keyOfText_35 (fun c18 M17 g19 h => ?_)
  have h := h g19
  refine q_istore (lv' := [(4, .int (gI c18)), (3, .int (gI c15)), (2, .int (gI c12)), (1, .int (gI c6)), (0, .ref (gad a0))]) C (by decide) rfl dX6_keyOfText_38 ?_
  refine q_aload_n C 4 rfl rfl dX6_keyOfText_40 ?_
  refine q_bipush C (by decide) dX6_keyOfText_41 ?_
  refine q_callVI (As := [.int (gI 9)]) (st := []) C vX6_248 kX6_squareOfText ⟨Nat.le_of_ble_eq_true rfl, Nat.le_of_ble_eq_true rfl⟩ ⟨Nat.le_of_ble_eq_true rfl, Nat.le_of_ble_eq_true rfl⟩ rfl hk0 ⟨_, _, rfl⟩ (by decide) rfl (Nat.le_of_ble_eq_true rfl) (mX6_squareOfText l D cy kd ln rh _ a0 9 M17 hk0 h) dX6_keyOfText_43 (fun c21 M20 g22 h => ?_)
  have h := h g22
  refine q_istore (lv' := [(5, .int (gI c21)), (4, .int (gI c18)), (3, .int (gI c15)), (2, .int (gI c12)), (1, .int (gI c6)), (0, .ref (gad a0))]) C (by decide) rfl dX6_keyOfText_46 ?_
  refine q_aload_n C 5 rfl rfl dX6_keyOfText_48 ?_
  refine q_get (v := .ref (rh a0 9)) C fX6_43 hk0 (if_neg (Int.not_lt.mpr r1)) dX6_keyOfText_49 (fun g23 => ?_)
  refine q_iconst C dX6_keyOfText_52 ?_
  obtain ⟨r24, h⟩ := h
  refine q_iald C hk0 rfl (fun _ q => q) r24 dX6_keyOfText_53 (fun g25 => ?_)
  have h := h g25
  refine q_bipush C (by decide) dX6_keyOfText_54 ?_
  refine q_icmp_ne (tgt := 110) C g25 (show rng 75 by decide) (by decide) dX6_keyOfText_56 (fun b26 => ?_) (fun b26 => ?_)
  · have h := h.1 b26
    refine q_lv (lv' := [(0, .ref (gad a0)), (1, .int (gI c6)), (2, .int (gI c12)), (3, .int (gI c15)), (4, .int (gI c18)), (5, .int (gI c21))]) [5, 4, 3, 2, 1, 0] rfl ?_
    exact t110  c6 c12 c15 c18 c21 M20 h
  · have h := h.2 b26
    refine q_aload_n C 5 rfl rfl dX6_keyOfText_59 ?_
    refine q_get (v := .ref (rh a0 9)) C fX6_43 hk0 (if_neg (Int.not_lt.mpr r1)) dX6_keyOfText_60 (fun g27 => ?_)
    refine q_iconst C dX6_keyOfText_63 ?_
    obtain ⟨r28, h⟩ := h
    refine q_iald C hk0 rfl (fun _ q => q) r28 dX6_keyOfText_64 (fun g29 => ?_)
    have h := h g29
    refine q_bipush C (by decide) dX6_keyOfText_65 ?_
    refine q_icmp_ne (tgt := 110) C g29 (show rng 32 by decide) (by decide) dX6_keyOfText_67 (fun b30 => ?_) (fun b30 => ?_)
    · have h := h.1 b30
      refine q_lv (lv' := [(0, .ref (gad a0)), (1, .int (gI c6)), (2, .int (gI c12)), (3, .int (gI c15)), (4, .int (gI c18)), (5, .int (gI c21))]) [5, 4, 3, 2, 1, 0] rfl ?_
      exact t110  c6 c12 c15 c18 c21 M20 h
    · have h := h.2 b30
      refine q_aload_n C 5 rfl rfl dX6_keyOfText_70 ?_
      refine q_get (v := .ref (rh a0 9)) C fX6_43 hk0 (if_neg (Int.not_lt.mpr r1)) dX6_keyOfText_71 (fun g31 => ?_)
      refine q_bipush C (by decide) dX6_keyOfText_74 ?_
      obtain ⟨r32, h⟩ := h
      refine q_iald C hk0 rfl (fun _ q => q) r32 dX6_keyOfText_76 (fun g33 => ?_)
      have h := h g33
      refine q_bipush C (by decide) dX6_keyOfText_77 ?_
      refine q_icmp_ne (tgt := 110) C g33 (show rng 32 by decide) (by decide) dX6_keyOfText_79 (fun b34 => ?_) (fun b34 => ?_)
      · have h := h.1 b34
        refine q_lv (lv' := [(0, .ref (gad a0)), (1, .int (gI c6)), (2, .int (gI c12)), (3, .int (gI c15)), (4, .int (gI c18)), (5, .int (gI c21))]) [5, 4, 3, 2, 1, 0] rfl ?_
        exact t110  c6 c12 c15 c18 c21 M20 h
      · have h := h.2 b34
        refine q_aload_n C 5 rfl rfl dX6_keyOfText_82 ?_
        refine q_get (v := .ref (rh a0 9)) C fX6_43 hk0 (if_neg (Int.not_lt.mpr r1)) dX6_keyOfText_83 (fun g35 => ?_)
        refine q_bipush C (by decide) dX6_keyOfText_86 ?_
        obtain ⟨r36, h⟩ := h
        refine q_iald C hk0 rfl (fun _ q => q) r36 dX6_keyOfText_88 (fun g37 => ?_)
        have h := h g37
        refine q_bipush C (by decide) dX6_keyOfText_89 ?_
        refine q_icmp_ne (tgt := 110) C g37 (show rng 107 by decide) (by decide) dX6_keyOfText_91 (fun b38 => ?_) (fun b38 => ?_)
        · have h := h.1 b38
          refine q_lv (lv' := [(0, .ref (gad a0)), (1, .int (gI c6)), (2, .int (gI c12)), (3, .int (gI c15)), (4, .int (gI c18)), (5, .int (gI c21))]) [5, 4, 3, 2, 1, 0] rfl ?_
          exact t110  c6 c12 c15 c18 c21 M20 h
        · have h := h.2 b38
          refine q_aload_n C 5 rfl rfl dX6_keyOfText_94 ?_
          refine q_get (v := .ref (rh a0 9)) C fX6_43 hk0 (if_neg (Int.not_lt.mpr r1)) dX6_keyOfText_95 (fun g39 => ?_)
          refine q_bipush C (by decide) dX6_keyOfText_98 ?_
          obtain ⟨r40, h⟩ := h
          refine q_iald C hk0 rfl (fun _ q => q) r40 dX6_keyOfText_100 (fun g41 => ?_)
          have h := h g41
          refine q_bipush C (by decide) dX6_keyOfText_101 ?_
          refine q_icmp_ne (tgt := 110) C g41 (show rng 32 by decide) (by decide) dX6_keyOfText_103 (fun b42 => ?_) (fun b42 => ?_)
          · have h := h.1 b42
            refine q_lv (lv' := [(0, .ref (gad a0)), (1, .int (gI c6)), (2, .int (gI c12)), (3, .int (gI c15)), (4, .int (gI c18)), (5, .int (gI c21))]) [5, 4, 3, 2, 1, 0] rfl ?_
            exact t110  c6 c12 c15 c18 c21 M20 h
          · have h := h.2 b42
            refine q_iconst C dX6_keyOfText_106 ?_
            refine q_goto (tgt := 111) C (by decide) dX6_keyOfText_107 ?_
            refine q_lv (lv' := [(0, .ref (gad a0)), (1, .int (gI c6)), (2, .int (gI c12)), (3, .int (gI c15)), (4, .int (gI c18)), (5, .int (gI c21))]) [5, 4, 3, 2, 1, 0] rfl ?_
            exact t111  c6 c12 c15 c18 c21 1 M20 h
set_option maxHeartbeats 4000000 in
set_option maxRecDepth 100000 in
theorem mX6_line (l : Launch) (D : va_G) (cy : Nat → ClassId) (kd : gKd) (ln : gLn) (rh : gRh) (post : Int → gM → Prop) (px : gM → Prop) (a0 : Int) (a1 : Int) (a2 : Int) (a3 : Int) (a4 : Int) (a5 : Int) (M : gM) (hst : l.stackTraces = false) (hk0 : kd a0 = 6) (h : wX6_line kd ln post px a0 a1 a2 a3 a4 a5 M) : gTI l D cy yX6_line cX6_line 8 .int 8 174 [.ref (gad a0), .int (gI a1), .int (gI a2), .int (gI a3), .int (gI a4), .int (gI a5)] kd ln rh M post px := by
  refine gTI_of (own := RX6) (by decide) rfl (Nat.le_of_ble_eq_true rfl) hst rfl ?_
  intro p e s m args below meth c A H0 Q C hret hthr hexc
  have t120 : ∀ (M : gM), wX6_line_120 kd ln post px a0 a1 a2 a3 a4 a5  M → gW p l e (gRt 8 174) s m args below meth c D cy A H0 Q 8 kd ln rh 1 6 M 120 [(0, .ref (gad a0))] [] := by
    intro   M h
    unfold wX6_line_120 at h
    refine q_aload_n C 0 rfl rfl dX6_line_120 ?_
    refine q_get (v := .int (gI (M a0 8 (-1)))) C fX6_56 hk0 rfl dX6_line_121 (fun g50 => ?_)
    have h := h g50
    refine q_iconst C dX6_line_124 ?_
    refine q_isub C dX6_line_125 ?_
    obtain ⟨r51, h⟩ := h
    exact hret ((M a0 8 (-1)) - 1) M _ _ 1 6 (by decide) (by decide) dX6_line_126 r51 h
  have t53 : ∀ (n : Nat) (x7 : Int) (M : gM), wX6_line_53 kd ln post px a0 a1 a2 a3 a4 a5 n x7 M → gW p l e (gRt 8 174) s m args below meth c D cy A H0 Q 8 kd ln rh 1 6 M 53 [(0, .ref (gad a0)), (7, .int (gI x7))] [] := by
    intro n
    induction n with
    | zero => intro x7 M h; exact absurd h (by simp [wX6_line_53])
    | succ n ih =>
      intro x7 M h
      have hk53_ := ih
      rw [wX6_line_53] at h
      refine q_iload C 1 rfl dX6_line_53 ?_
      obtain ⟨r18, h⟩ := h
      refine q_if_le (tgt := 120) C r18 (by decide) dX6_line_55 (fun b19 => ?_) (fun b19 => ?_)
      · have h := h.1 b19
        refine q_lv (lv' := [(0, .ref (gad a0))]) [0] rfl ?_
        exact t120  M h
      · have h := h.2 b19
        refine q_aload_n C 0 rfl rfl dX6_line_58 ?_
        refine q_aload_n C 0 rfl rfl dX6_line_59 ?_
        refine q_get (v := gR (M a0 5 (-1))) C fX6_33 hk0 rfl dX6_line_60 (fun g20 => ?_)
        obtain ⟨r21, h⟩ := h
        refine q_nn r21 (by decide) ?_
        refine q_aload_n C 0 rfl rfl dX6_line_63 ?_
        refine q_get (v := gR (M a0 6 (-1))) C fX6_36 hk0 rfl dX6_line_64 (fun g22 => ?_)
        obtain ⟨r23, h⟩ := h
        refine q_nn r23 (by decide) ?_
        refine q_callVV (As := [.ref (gad (M a0 5 (-1))), .ref (gad (M a0 6 (-1)))]) (st := []) C vX6_110 kX6_gather ⟨Nat.le_of_ble_eq_true rfl, Nat.le_of_ble_eq_true rfl⟩ ⟨Nat.le_of_ble_eq_true rfl, Nat.le_of_ble_eq_true rfl⟩ rfl hk0 ⟨_, _, rfl⟩ (by decide) rfl (Nat.le_of_ble_eq_true rfl) (mX6_gather l D cy kd ln rh _ a0 (M a0 5 (-1)) (M a0 6 (-1)) M hk0 r21 r23 h) dX6_line_67 (fun M24 h => ?_)
        refine q_aload_n C 0 rfl rfl dX6_line_70 ?_
        refine q_get (v := gR (M24 a0 5 (-1))) C fX6_33 hk0 rfl dX6_line_71 (fun g27 => ?_)
        obtain ⟨r28, h⟩ := h
        refine q_nn r28 (by decide) ?_
        refine q_iload C 1 rfl dX6_line_74 ?_
        refine q_callSI (As := [.int (gI x7)]) (st := [.ref (gad (M24 a0 5 (-1)))]) C vX6_114 kX6_goalAfter ⟨Nat.le_of_ble_eq_true rfl, Nat.le_of_ble_eq_true rfl⟩ ⟨Nat.le_of_ble_eq_true rfl, Nat.le_of_ble_eq_true rfl⟩ rfl rfl (Nat.le_of_ble_eq_true rfl) (mX6_goalAfter l D cy kd ln rh _ x7 M24  h) dX6_line_76 (fun c30 M29 g31 h => ?_)
        have h := h g31
        refine q_callVV (As := [.int (gI c30)]) (st := []) C vX6_118 kX1_keep ⟨Nat.le_of_ble_eq_true rfl, Nat.le_of_ble_eq_true rfl⟩ ⟨Nat.le_of_ble_eq_true rfl, Nat.le_of_ble_eq_true rfl⟩ rfl r28 ⟨_, _, rfl⟩ (by decide) rfl (Nat.le_of_ble_eq_true rfl) (mX1_keep l D cy kd ln rh _ (M24 a0 5 (-1)) c30 M29 r28 h) dX6_line_79 (fun M32 h => ?_)
        refine q_aload_n C 0 rfl rfl dX6_line_82 ?_
        refine q_get (v := gR (M32 a0 5 (-1))) C fX6_33 hk0 rfl dX6_line_83 (fun g35 => ?_)
        obtain ⟨r36, h⟩ := h
        refine q_nn r36 (by decide) ?_
        refine q_get (v := .int (gI (M32 (M32 a0 5 (-1)) 0 (-1)))) C fX6_121 r36 rfl dX6_line_86 (fun g37 => ?_)
        have h := h g37
        refine q_if_ne (tgt := 95) C g37 (by decide) dX6_line_89 (fun b38 => ?_) (fun b38 => ?_)
        · have h := h.1 b38
          refine q_aload_n C 0 rfl rfl dX6_line_95 ?_
          refine q_get (v := gR (M32 a0 6 (-1))) C fX6_36 hk0 rfl dX6_line_96 (fun g39 => ?_)
          obtain ⟨r40, h⟩ := h
          refine q_nn r40 (by decide) ?_
          refine q_aload_n C 0 rfl rfl dX6_line_99 ?_
          refine q_get (v := gR (M32 a0 5 (-1))) C fX6_33 hk0 rfl dX6_line_100 (fun g41 => ?_)
          refine q_nn r36 (by decide) ?_
          refine q_callVV (As := [.ref (gad (M32 a0 5 (-1)))]) (st := []) C vX6_131 kX4_play ⟨Nat.le_of_ble_eq_true rfl, Nat.le_of_ble_eq_true rfl⟩ ⟨Nat.le_of_ble_eq_true rfl, Nat.le_of_ble_eq_true rfl⟩ rfl r40 ⟨_, _, rfl⟩ (by decide) rfl (Nat.le_of_ble_eq_true rfl) (mX4_play l D cy kd ln rh _ (M32 a0 6 (-1)) (M32 a0 5 (-1)) M32 r40 r36 h) dX6_line_103 (fun M42 h => ?_)
          refine q_aload_n C 0 rfl rfl dX6_line_106 ?_
          refine q_aload_n C 0 rfl rfl dX6_line_107 ?_
          refine q_get (v := gR (M42 a0 6 (-1))) C fX6_36 hk0 rfl dX6_line_108 (fun g45 => ?_)
          obtain ⟨r46, h⟩ := h
          refine q_nn r46 (by decide) ?_
          refine q_callVV (As := [.ref (gad (M42 a0 6 (-1)))]) (st := []) C vX6_127 kX6_addToLine ⟨Nat.le_of_ble_eq_true rfl, Nat.le_of_ble_eq_true rfl⟩ ⟨Nat.le_of_ble_eq_true rfl, Nat.le_of_ble_eq_true rfl⟩ rfl hk0 ⟨_, _, rfl⟩ (by decide) rfl (Nat.le_of_ble_eq_true rfl) (mX6_addToLine l D cy kd ln rh _ a0 (M42 a0 6 (-1)) M42 hk0 r46 h) dX6_line_111 (fun M47 h => ?_)
          refine q_iinc (lv' := [(7, .int (gI (x7 + (-1)))), (0, .ref (gad a0))]) C 1 rfl (by decide) rfl dX6_line_114 ?_
          refine q_goto (tgt := 53) C (by decide) dX6_line_117 ?_
          refine q_lv (lv' := [(0, .ref (gad a0)), (7, .int (gI (x7 + (-1))))]) [1, 0] rfl ?_
          exact hk53_ (x7 + (-1)) M47 h
        · have h := h.2 b38
          refine q_goto (tgt := 120) C (by decide) dX6_line_92 ?_
          refine q_lv (lv' := [(0, .ref (gad a0))]) [0] rfl ?_
          exact t120  M32 h
  unfold wX6_line at h
  refine q_aload_n C 0 rfl rfl dX6_line_0 ?_
  refine q_iload_n C 1 rfl rfl dX6_line_1 ?_
  refine q_iload_n C 2 rfl rfl dX6_line_2 ?_
  refine q_iload_n C 3 rfl rfl dX6_line_3 ?_
  refine q_iload C 4 rfl dX6_line_4 ?_
  refine q_iload C 5 rfl dX6_line_6 ?_
  refine q_callTR (As := [.int (gI a1), .int (gI a2), .int (gI a3), .int (gI a4), .int (gI a5)]) (st := []) C vX6_98 kX6_demandTable ⟨Nat.le_of_ble_eq_true rfl, Nat.le_of_ble_eq_true rfl⟩ ⟨Nat.le_of_ble_eq_true rfl, Nat.le_of_ble_eq_true rfl⟩ rfl hk0 ⟨_, _, rfl⟩ (by decide) rfl (Nat.le_of_ble_eq_true rfl) (mX6_demandTable l D cy kd ln rh _ _ a0 a1 a2 a3 a4 a5 M hst hk0 h) dX6_line_8 (fun M9 h => hexc M9 _ _ _ _ _ (by decide) (by decide) h) (fun c2 M1 h => ?_)
  refine q_iload_n C 2 rfl rfl dX6_line_11 ?_
  refine q_iload_n C 3 rfl rfl dX6_line_12 ?_
  refine q_iload C 4 rfl dX6_line_13 ?_
  refine q_iload C 5 rfl dX6_line_15 ?_
  obtain ⟨r4, h⟩ := h
  refine q_callVI (As := [.int (gI a2), .int (gI a3), .int (gI a4), .int (gI a5)]) (st := []) C vX6_102 kX5_look ⟨Nat.le_of_ble_eq_true rfl, Nat.le_of_ble_eq_true rfl⟩ ⟨Nat.le_of_ble_eq_true rfl, Nat.le_of_ble_eq_true rfl⟩ rfl r4 ⟨_, _, rfl⟩ (by decide) rfl (Nat.le_of_ble_eq_true rfl) (mX5_look l D cy kd ln rh _ c2 a2 a3 a4 a5 M1 r4 h) dX6_line_17 (fun c6 M5 g7 h => ?_)
  have h := h g7
  refine q_istore (lv' := [(6, .int (gI c6)), (0, .ref (gad a0)), (1, .int (gI a1)), (2, .int (gI a2)), (3, .int (gI a3)), (4, .int (gI a4)), (5, .int (gI a5))]) C (by decide) rfl dX6_line_20 ?_
  refine q_aload_n C 1 rfl rfl dX6_line_22 ?_
  refine q_get (v := gR (M5 a0 6 (-1))) C fX6_36 hk0 rfl dX6_line_23 (fun g8 => ?_)
  obtain ⟨r9, h⟩ := h
  refine q_nn r9 (by decide) ?_
  refine q_iload_n C 2 rfl rfl dX6_line_26 ?_
  refine q_iload_n C 3 rfl rfl dX6_line_27 ?_
  refine q_iload_n C 4 rfl rfl dX6_line_28 ?_
  refine q_iload C 5 rfl dX6_line_29 ?_
  refine q_iload C 6 rfl dX6_line_31 ?_
  refine q_callVV (As := [.int (gI a1), .int (gI a2), .int (gI a3), .int (gI a4), .int (gI a5)]) (st := []) C vX6_106 kX4_set ⟨Nat.le_of_ble_eq_true rfl, Nat.le_of_ble_eq_true rfl⟩ ⟨Nat.le_of_ble_eq_true rfl, Nat.le_of_ble_eq_true rfl⟩ rfl r9 ⟨_, _, rfl⟩ (by decide) rfl (Nat.le_of_ble_eq_true rfl) (mX4_set l D cy kd ln rh _ (M5 a0 6 (-1)) a1 a2 a3 a4 a5 M5 r9 h) dX6_line_33 (fun M10 h => ?_)
  refine q_aload_n C 1 rfl rfl dX6_line_36 ?_
  refine q_iconst C dX6_line_37 ?_
  refine q_put (x := 0) (ty := .int) C fX6_56 hk0 (fun _ _ _ q => by cases q; rfl) (congrArg (fun z => Value.int (gI z)) gu_s) rfl rfl (show rng 0 by decide) (fun j q => absurd (show (0 : Nat) = j + 3 from q) (by omega)) dX6_line_38 ?_
  refine q_aload_n C 1 rfl rfl dX6_line_41 ?_
  refine q_aload_n C 1 rfl rfl dX6_line_42 ?_
  refine q_get (v := gR ((gu M10 a0 8 (-1) 0) a0 6 (-1))) C fX6_36 hk0 rfl dX6_line_43 (fun g13 => ?_)
  obtain ⟨r14, h⟩ := h
  refine q_nn r14 (by decide) ?_
  refine q_callVV (As := [.ref (gad ((gu M10 a0 8 (-1) 0) a0 6 (-1)))]) (st := []) C vX6_127 kX6_addToLine ⟨Nat.le_of_ble_eq_true rfl, Nat.le_of_ble_eq_true rfl⟩ ⟨Nat.le_of_ble_eq_true rfl, Nat.le_of_ble_eq_true rfl⟩ rfl hk0 ⟨_, _, rfl⟩ (by decide) rfl (Nat.le_of_ble_eq_true rfl) (mX6_addToLine l D cy kd ln rh _ a0 ((gu M10 a0 8 (-1) 0) a0 6 (-1)) (gu M10 a0 8 (-1) 0) hk0 r14 h) dX6_line_46 (fun M15 h => ?_)
  refine q_iload C 0 rfl dX6_line_49 ?_
  refine q_istore (lv' := [(7, .int (gI c6)), (6, .int (gI c6)), (0, .ref (gad a0)), (1, .int (gI a1)), (2, .int (gI a2)), (3, .int (gI a3)), (4, .int (gI a4)), (5, .int (gI a5))]) C (by decide) rfl dX6_line_51 ?_
  refine q_lv (lv' := [(0, .ref (gad a0)), (7, .int (gI c6))]) [2, 0] rfl ?_
  obtain ⟨j53, h⟩ := h
  exact t53  j53 c6 M15 h
