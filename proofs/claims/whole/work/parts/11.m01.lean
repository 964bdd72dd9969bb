set_option maxHeartbeats 4000000 in
set_option maxRecDepth 100000 in
theorem mX6_gatherPromotions (l : Launch) (D : va_G) (cy : Nat → ClassId) (kd : gKd) (ln : gLn) (rh : gRh) (post : gM → Prop) (a0 : Int) (a1 : Int) (a2 : Int) (a3 : Int) (M : gM) (hk0 : kd a0 = 6) (hk1 : kd a1 = 1) (hk2 : kd a2 = 4) (h : wX6_gatherPromotions kd ln post a0 a1 a2 a3 M) : gMV l D cy yX6_gatherPromotions cX6_gatherPromotions 6 4 100 [.ref (gad a0), .ref (gad a1), .ref (gad a2), .int (gI a3)] kd ln rh M post := by
  refine gMV_of (own := RX6) (by decide) rfl (Nat.le_of_ble_eq_true rfl) ?_
  intro p e s m args below meth c A H0 Q C hret
  have t55 : ∀ (k3 : Int → gM → Prop), (∀ (x4 : Int), ∀ (M : gM), k3 x4 M → gW p l e (gRm 4 100) s m args below meth c D cy A H0 Q 6 kd ln rh 0 0 M 3 [(0, .ref (gad a0)), (1, .ref (gad a1)), (2, .ref (gad a2)), (3, .int (gI a3)), (4, .int (gI x4))] []) → ∀ (x4 : Int) (y0 : Int) (y1 : Int) (y2 : Int) (y3 : Int) (y4 : Int) (M : gM), wX6_gatherPromotions_55 kd ln post a0 a1 a2 a3 k3 x4 y0 y1 y2 y3 y4 M → gW p l e (gRm 4 100) s m args below meth c D cy A H0 Q 6 kd ln rh 0 0 M 55 [(0, .ref (gad a0)), (1, .ref (gad a1)), (2, .ref (gad a2)), (3, .int (gI a3)), (4, .int (gI x4))] [.int (gI y0), .int (gI y1), .int (gI y2), .int (gI y3), .ref (gad y4)] := by
    intro k3 hk3_ x4 y0 y1 y2 y3 y4 M h
    unfold wX6_gatherPromotions_55 at h
    obtain ⟨r12, h⟩ := h
    refine q_callVV (As := [.int (gI y3), .int (gI y2), .int (gI y1), .int (gI y0)]) (st := []) C vX6_236 kX1_add ⟨Nat.le_of_ble_eq_true rfl, Nat.le_of_ble_eq_true rfl⟩ ⟨Nat.le_of_ble_eq_true rfl, Nat.le_of_ble_eq_true rfl⟩ rfl r12 ⟨_, _, rfl⟩ (by decide) rfl (Nat.le_of_ble_eq_true rfl) (mX1_add l D cy kd ln rh _ y4 y3 y2 y1 y0 M r12 h) dX6_gatherPromotions_55 (fun M13 h => ?_)
    refine q_iinc (lv' := [(4, .int (gI (x4 + 1))), (0, .ref (gad a0)), (1, .ref (gad a1)), (2, .ref (gad a2)), (3, .int (gI a3))]) C 4 rfl (by decide) rfl dX6_gatherPromotions_58 ?_
    refine q_goto (tgt := 3) C (by decide) dX6_gatherPromotions_61 ?_
    refine q_lv (lv' := [(0, .ref (gad a0)), (1, .ref (gad a1)), (2, .ref (gad a2)), (3, .int (gI a3)), (4, .int (gI (x4 + 1)))]) [1, 2, 3, 4, 0] rfl ?_
    exact hk3_ (x4 + 1) M13 h
  have t20 : ∀ (k3 : Int → gM → Prop), (∀ (x4 : Int), ∀ (M : gM), k3 x4 M → gW p l e (gRm 4 100) s m args below meth c D cy A H0 Q 6 kd ln rh 0 0 M 3 [(0, .ref (gad a0)), (1, .ref (gad a1)), (2, .ref (gad a2)), (3, .int (gI a3)), (4, .int (gI x4))] []) → ∀ (x4 : Int) (y0 : Int) (M : gM), wX6_gatherPromotions_20 kd ln post a0 a1 a2 a3 k3 x4 y0 M → gW p l e (gRm 4 100) s m args below meth c D cy A H0 Q 6 kd ln rh 0 0 M 20 [(0, .ref (gad a0)), (1, .ref (gad a1)), (2, .ref (gad a2)), (3, .int (gI a3)), (4, .int (gI x4))] [.int (gI y0)] := by
    intro k3 hk3_ x4 y0 M h
    unfold wX6_gatherPromotions_20 at h
    refine q_istore (lv' := [(5, .int (gI y0)), (0, .ref (gad a0)), (1, .ref (gad a1)), (2, .ref (gad a2)), (3, .int (gI a3)), (4, .int (gI x4))]) C (by decide) rfl dX6_gatherPromotions_20 ?_
    refine q_aload_n C 2 rfl rfl dX6_gatherPromotions_22 ?_
    refine q_aload_n C 3 rfl rfl dX6_gatherPromotions_23 ?_
    refine q_get (v := .int (gI (M a2 3 (-1)))) C fX6_214 hk2 rfl dX6_gatherPromotions_24 (fun g4 => ?_)
    have h := h g4
    refine q_iload_n C 4 rfl rfl dX6_gatherPromotions_27 ?_
    refine q_iload C 5 rfl dX6_gatherPromotions_28 ?_
    refine q_iload C 0 rfl dX6_gatherPromotions_30 ?_
    obtain ⟨r5, h⟩ := h
    refine q_if_eq (tgt := 54) C r5 (by decide) dX6_gatherPromotions_32 (fun b6 => ?_) (fun b6 => ?_)
    · have h := h.1 b6
      refine q_iconst C dX6_gatherPromotions_54 ?_
      refine q_lv (lv' := [(0, .ref (gad a0)), (1, .ref (gad a1)), (2, .ref (gad a2)), (3, .int (gI a3)), (4, .int (gI x4))]) [1, 2, 3, 4, 5] rfl ?_
      exact t55 k3 hk3_ x4 (-1) x4 a3 (M a2 3 (-1)) a1 M h
    · have h := h.2 b6
      refine q_aload_n C 1 rfl rfl dX6_gatherPromotions_35 ?_
      refine q_iload C 5 rfl dX6_gatherPromotions_36 ?_
      refine q_aload_n C 3 rfl rfl dX6_gatherPromotions_38 ?_
      refine q_get (v := .int (gI (M a2 1 (-1)))) C fX6_211 hk2 rfl dX6_gatherPromotions_39 (fun g7 => ?_)
      have h := h g7
      refine q_aload_n C 3 rfl rfl dX6_gatherPromotions_42 ?_
      refine q_get (v := .int (gI (M a2 2 (-1)))) C fX6_226 hk2 rfl dX6_gatherPromotions_43 (fun g8 => ?_)
      have h := h g8
      refine q_iload_n C 4 rfl rfl dX6_gatherPromotions_46 ?_
      refine q_iconst C dX6_gatherPromotions_47 ?_
      refine q_callVI (As := [.int (gI x4), .int (gI (M a2 1 (-1))), .int (gI (M a2 2 (-1))), .int (gI a3), .int (gI 1)]) (st := [.int (gI x4), .int (gI a3), .int (gI (M a2 3 (-1))), .ref (gad a1)]) C vX6_232 kX6_lookUp ⟨Nat.le_of_ble_eq_true rfl, Nat.le_of_ble_eq_true rfl⟩ ⟨Nat.le_of_ble_eq_true rfl, Nat.le_of_ble_eq_true rfl⟩ rfl hk0 ⟨_, _, rfl⟩ (by decide) rfl (Nat.le_of_ble_eq_true rfl) (mX6_lookUp l D cy kd ln rh _ a0 x4 (M a2 1 (-1)) (M a2 2 (-1)) a3 1 M hk0 h) dX6_gatherPromotions_48 (fun c10 M9 g11 h => ?_)
      have h := h g11
      refine q_goto (tgt := 55) C (by decide) dX6_gatherPromotions_51 ?_
      refine q_lv (lv' := [(0, .ref (gad a0)), (1, .ref (gad a1)), (2, .ref (gad a2)), (3, .int (gI a3)), (4, .int (gI x4))]) [1, 2, 3, 4, 5] rfl ?_
      exact t55 k3 hk3_ x4 c10 x4 a3 (M a2 3 (-1)) a1 M9 h
  have t3 : ∀ (n : Nat) (x4 : Int) (M : gM), wX6_gatherPromotions_3 kd ln post a0 a1 a2 a3 n x4 M → gW p l e (gRm 4 100) s m args below meth c D cy A H0 Q 6 kd ln rh 0 0 M 3 [(0, .ref (gad a0)), (1, .ref (gad a1)), (2, .ref (gad a2)), (3, .int (gI a3)), (4, .int (gI x4))] [] := by
    intro n
    induction n with
    | zero => intro x4 M h; exact absurd h (by simp [wX6_gatherPromotions_3])
    | succ n ih =>
      intro x4 M h
      have hk3_ := ih
      rw [wX6_gatherPromotions_3] at h
      refine q_iload C 4 rfl dX6_gatherPromotions_3 ?_
      refine q_iconst C dX6_gatherPromotions_5 ?_
      obtain ⟨r1, h⟩ := h
      refine q_icmp_ge (tgt := 64) C r1 (show rng 4 by decide) (by decide) dX6_gatherPromotions_6 (fun b2 => ?_) (fun b2 => ?_)
      · have h := h.1 b2
        exact hret M _ _ dX6_gatherPromotions_64 h
      · have h := h.2 b2
        refine q_iload C 4 rfl dX6_gatherPromotions_9 ?_
        refine q_iconst C dX6_gatherPromotions_11 ?_
        refine q_icmp_gt (tgt := 19) C r1 (show rng 1 by decide) (by decide) dX6_gatherPromotions_12 (fun b3 => ?_) (fun b3 => ?_)
        · have h := h.1 b3
          refine q_iconst C dX6_gatherPromotions_19 ?_
          exact t20 (wX6_gatherPromotions_3 kd ln post a0 a1 a2 a3 n) hk3_ x4 0 M h
        · have h := h.2 b3
          refine q_iconst C dX6_gatherPromotions_15 ?_
          refine q_goto (tgt := 20) C (by decide) dX6_gatherPromotions_16 ?_
          exact t20 (wX6_gatherPromotions_3 kd ln post a0 a1 a2 a3 n) hk3_ x4 1 M h
  unfold wX6_gatherPromotions at h
  refine q_iconst C dX6_gatherPromotions_0 ?_
  refine q_istore (lv' := [(4, .int (gI 0)), (0, .ref (gad a0)), (1, .ref (gad a1)), (2, .ref (gad a2)), (3, .int (gI a3))]) C (by decide) rfl dX6_gatherPromotions_1 ?_
  refine q_lv (lv' := [(0, .ref (gad a0)), (1, .ref (gad a1)), (2, .ref (gad a2)), (3, .int (gI a3)), (4, .int (gI 0))]) [1, 2, 3, 4, 0] rfl ?_
  obtain ⟨j3, h⟩ := h
  exact t3  j3 0 M h
set_option maxHeartbeats 4000000 in
set_option maxRecDepth 100000 in
theorem mX6_gatherMan (l : Launch) (D : va_G) (cy : Nat → ClassId) (kd : gKd) (ln : gLn) (rh : gRh) (post : gM → Prop) (a0 : Int) (a1 : Int) (a2 : Int) (M : gM) (hk0 : kd a0 = 6) (hk1 : kd a1 = 1) (hk2 : kd a2 = 4) (h : wX6_gatherMan kd ln post a0 a1 a2 M) : gMV l D cy yX6_gatherMan cX6_gatherMan 8 5 125 [.ref (gad a0), .ref (gad a1), .ref (gad a2)] kd ln rh M post := by
  refine gMV_of (own := RX6) (by decide) rfl (Nat.le_of_ble_eq_true rfl) ?_
  intro p e s m args below meth c A H0 Q C hret
  have t102 : ∀ (k27 : BitVec 64 → gM → Prop), (∀ (x5 : BitVec 64), ∀ (M : gM), k27 x5 M → gW p l e (gRm 5 125) s m args below meth c D cy A H0 Q 8 kd ln rh 0 0 M 27 [(0, .ref (gad a0)), (1, .ref (gad a1)), (2, .ref (gad a2)), (5, .long (gL x5))] []) → ∀ (x5 : BitVec 64) (M : gM), wX6_gatherMan_102 kd ln post a0 a1 a2 k27 x5 M → gW p l e (gRm 5 125) s m args below meth c D cy A H0 Q 8 kd ln rh 0 0 M 102 [(0, .ref (gad a0)), (1, .ref (gad a1)), (2, .ref (gad a2)), (5, .long (gL x5))] [] := by
    intro k27 hk27_ x5 M h
    unfold wX6_gatherMan_102 at h
    refine q_lload C 3 rfl dX6_gatherMan_102 ?_
    refine q_lload C 3 rfl dX6_gatherMan_104 ?_
    refine q_lconst (b := 1) C rfl dX6_gatherMan_106 ?_
    refine q_lsub C dX6_gatherMan_107 ?_
    refine q_land C dX6_gatherMan_108 ?_
    refine q_topl (fun v25 ev25 => ?_)
    have h := h v25 ev25
    refine q_lstore (lv' := [(5, .long (gL v25)), (0, .ref (gad a0)), (1, .ref (gad a1)), (2, .ref (gad a2))]) C (by decide) rfl dX6_gatherMan_109 ?_
    refine q_goto (tgt := 27) C (by decide) dX6_gatherMan_111 ?_
    refine q_lv (lv' := [(0, .ref (gad a0)), (1, .ref (gad a1)), (2, .ref (gad a2)), (5, .long (gL v25))]) [1, 2, 3, 0] rfl ?_
    exact hk27_ v25 M h
  have t72 : ∀ (k27 : BitVec 64 → gM → Prop), (∀ (x5 : BitVec 64), ∀ (M : gM), k27 x5 M → gW p l e (gRm 5 125) s m args below meth c D cy A H0 Q 8 kd ln rh 0 0 M 27 [(0, .ref (gad a0)), (1, .ref (gad a1)), (2, .ref (gad a2)), (5, .long (gL x5))] []) → ∀ (x5 : BitVec 64) (x7 : Int) (M : gM), wX6_gatherMan_72 kd ln post a0 a1 a2 k27 x5 x7 M → gW p l e (gRm 5 125) s m args below meth c D cy A H0 Q 8 kd ln rh 0 0 M 72 [(0, .ref (gad a0)), (1, .ref (gad a1)), (2, .ref (gad a2)), (5, .long (gL x5)), (7, .int (gI x7))] [] := by
    intro k27 hk27_ x5 x7 M h
    unfold wX6_gatherMan_72 at h
    refine q_aload_n C 1 rfl rfl dX6_gatherMan_72 ?_
    refine q_aload_n C 2 rfl rfl dX6_gatherMan_73 ?_
    refine q_get (v := .int (gI (M a2 3 (-1)))) C fX6_214 hk2 rfl dX6_gatherMan_74 (fun g26 => ?_)
    have h := h g26
    refine q_iload C 4 rfl dX6_gatherMan_77 ?_
    refine q_iconst C dX6_gatherMan_79 ?_
    refine q_aload_n C 0 rfl rfl dX6_gatherMan_80 ?_
    refine q_aload_n C 2 rfl rfl dX6_gatherMan_81 ?_
    refine q_get (v := .int (gI (M a2 0 (-1)))) C fX6_223 hk2 rfl dX6_gatherMan_82 (fun g27 => ?_)
    have h := h g27
    refine q_aload_n C 2 rfl rfl dX6_gatherMan_85 ?_
    refine q_get (v := .int (gI (M a2 1 (-1)))) C fX6_211 hk2 rfl dX6_gatherMan_86 (fun g28 => ?_)
    have h := h g28
    refine q_aload_n C 2 rfl rfl dX6_gatherMan_89 ?_
    refine q_get (v := .int (gI (M a2 2 (-1)))) C fX6_226 hk2 rfl dX6_gatherMan_90 (fun g29 => ?_)
    have h := h g29
    refine q_iload C 4 rfl dX6_gatherMan_93 ?_
    refine q_iconst C dX6_gatherMan_95 ?_
    refine q_callVI (As := [.int (gI (M a2 0 (-1))), .int (gI (M a2 1 (-1))), .int (gI (M a2 2 (-1))), .int (gI x7), .int (gI 1)]) (st := [.int (gI (-1)), .int (gI x7), .int (gI (M a2 3 (-1))), .ref (gad a1)]) C vX6_232 kX6_lookUp ⟨Nat.le_of_ble_eq_true rfl, Nat.le_of_ble_eq_true rfl⟩ ⟨Nat.le_of_ble_eq_true rfl, Nat.le_of_ble_eq_true rfl⟩ rfl hk0 ⟨_, _, rfl⟩ (by decide) rfl (Nat.le_of_ble_eq_true rfl) (mX6_lookUp l D cy kd ln rh _ a0 (M a2 0 (-1)) (M a2 1 (-1)) (M a2 2 (-1)) x7 1 M hk0 h) dX6_gatherMan_96 (fun c31 M30 g32 h => ?_)
    have h := h g32
    refine q_callVV (As := [.int (gI (M a2 3 (-1))), .int (gI x7), .int (gI (-1)), .int (gI c31)]) (st := []) C vX6_236 kX1_add ⟨Nat.le_of_ble_eq_true rfl, Nat.le_of_ble_eq_true rfl⟩ ⟨Nat.le_of_ble_eq_true rfl, Nat.le_of_ble_eq_true rfl⟩ rfl hk1 ⟨_, _, rfl⟩ (by decide) rfl (Nat.le_of_ble_eq_true rfl) (mX1_add l D cy kd ln rh _ a1 (M a2 3 (-1)) x7 (-1) c31 M30 hk1 h) dX6_gatherMan_99 (fun M33 h => ?_)
    refine q_lv (lv' := [(0, .ref (gad a0)), (1, .ref (gad a1)), (2, .ref (gad a2)), (5, .long (gL x5))]) [0, 1, 2, 3] rfl ?_
    exact t102 k27 hk27_ x5 M33 h
  have t27 : ∀ (n : Nat) (x5 : BitVec 64) (M : gM), wX6_gatherMan_27 kd ln post a0 a1 a2 n x5 M → gW p l e (gRm 5 125) s m args below meth c D cy A H0 Q 8 kd ln rh 0 0 M 27 [(0, .ref (gad a0)), (1, .ref (gad a1)), (2, .ref (gad a2)), (5, .long (gL x5))] [] := by
    intro n
    induction n with
    | zero => intro x5 M h; exact absurd h (by simp [wX6_gatherMan_27])
    | succ n ih =>
      intro x5 M h
      have hk27_ := ih
      rw [wX6_gatherMan_27] at h
      refine q_lload C 3 rfl dX6_gatherMan_27 ?_
      refine q_lconst (b := 0) C rfl dX6_gatherMan_29 ?_
      refine q_lcmp C dX6_gatherMan_30 ?_
      refine q_if_eq (tgt := 114) C (rng_of _) (by decide) dX6_gatherMan_31 (fun b10 => ?_) (fun b10 => ?_)
      · have h := h.1 b10
        exact hret M _ _ dX6_gatherMan_114 h
      · have h := h.2 b10
        refine q_lload C 3 rfl dX6_gatherMan_34 ?_
        refine q_callSI (As := [.long (gL x5)]) (st := []) C vX6_229 kX6_lowest ⟨Nat.le_of_ble_eq_true rfl, Nat.le_of_ble_eq_true rfl⟩ ⟨Nat.le_of_ble_eq_true rfl, Nat.le_of_ble_eq_true rfl⟩ rfl rfl (Nat.le_of_ble_eq_true rfl) (mX6_lowest l D cy kd ln rh _ x5 M  h) dX6_gatherMan_36 (fun c12 M11 g13 h => ?_)
        have h := h g13
        refine q_istore (lv' := [(7, .int (gI c12)), (0, .ref (gad a0)), (1, .ref (gad a1)), (2, .ref (gad a2)), (5, .long (gL x5))]) C (by decide) rfl dX6_gatherMan_39 ?_
        refine q_aload_n C 3 rfl rfl dX6_gatherMan_41 ?_
        refine q_get (v := .int (gI (M11 a2 0 (-1)))) C fX6_223 hk2 rfl dX6_gatherMan_42 (fun g14 => ?_)
        have h := h g14
        refine q_iconst C dX6_gatherMan_45 ?_
        refine q_icmp_ne (tgt := 72) C g14 (show rng 2 by decide) (by decide) dX6_gatherMan_46 (fun b15 => ?_) (fun b15 => ?_)
        · have h := h.1 b15
          refine q_lv (lv' := [(0, .ref (gad a0)), (1, .ref (gad a1)), (2, .ref (gad a2)), (5, .long (gL x5)), (7, .int (gI c12))]) [1, 2, 3, 4, 0] rfl ?_
          exact t72 (wX6_gatherMan_27 kd ln post a0 a1 a2 n) hk27_ x5 c12 M11 h
        · have h := h.2 b15
          refine q_aload_n C 1 rfl rfl dX6_gatherMan_49 ?_
          refine q_get (v := gR (M11 a0 1 (-1))) C fX6_52 hk0 rfl dX6_gatherMan_50 (fun g16 => ?_)
          obtain ⟨r17, h⟩ := h
          refine q_nn r17 (by decide) ?_
          refine q_iload C 0 rfl dX6_gatherMan_53 ?_
          refine q_callVI (As := [.int (gI c12)]) (st := []) C vX6_90 kX0_isLastRank ⟨Nat.le_of_ble_eq_true rfl, Nat.le_of_ble_eq_true rfl⟩ ⟨Nat.le_of_ble_eq_true rfl, Nat.le_of_ble_eq_true rfl⟩ rfl r17 ⟨_, _, rfl⟩ (by decide) rfl (Nat.le_of_ble_eq_true rfl) (mX0_isLastRank l D cy kd ln rh _ (M11 a0 1 (-1)) c12 M11 r17 h) dX6_gatherMan_55 (fun c19 M18 g20 h => ?_)
          have h := h g20
          refine q_if_eq (tgt := 72) C g20 (by decide) dX6_gatherMan_58 (fun b21 => ?_) (fun b21 => ?_)
          · have h := h.1 b21
            refine q_lv (lv' := [(0, .ref (gad a0)), (1, .ref (gad a1)), (2, .ref (gad a2)), (5, .long (gL x5)), (7, .int (gI c12))]) [1, 2, 3, 4, 0] rfl ?_
            exact t72 (wX6_gatherMan_27 kd ln post a0 a1 a2 n) hk27_ x5 c12 M18 h
          · have h := h.2 b21
            refine q_aload_n C 1 rfl rfl dX6_gatherMan_61 ?_
            refine q_aload_n C 2 rfl rfl dX6_gatherMan_62 ?_
            refine q_aload_n C 3 rfl rfl dX6_gatherMan_63 ?_
            refine q_iload C 0 rfl dX6_gatherMan_64 ?_
            refine q_callVV (As := [.ref (gad a1), .ref (gad a2), .int (gI c12)]) (st := []) C vX6_240 kX6_gatherPromotions ⟨Nat.le_of_ble_eq_true rfl, Nat.le_of_ble_eq_true rfl⟩ ⟨Nat.le_of_ble_eq_true rfl, Nat.le_of_ble_eq_true rfl⟩ rfl hk0 ⟨_, _, rfl⟩ (by decide) rfl (Nat.le_of_ble_eq_true rfl) (mX6_gatherPromotions l D cy kd ln rh _ a0 a1 a2 c12 M18 hk0 hk1 hk2 h) dX6_gatherMan_66 (fun M22 h => ?_)
            refine q_goto (tgt := 102) C (by decide) dX6_gatherMan_69 ?_
            refine q_lv (lv' := [(0, .ref (gad a0)), (1, .ref (gad a1)), (2, .ref (gad a2)), (5, .long (gL x5))]) [1, 2, 3, 4] rfl ?_
            exact t102 (wX6_gatherMan_27 kd ln post a0 a1 a2 n) hk27_ x5 M22 h
  unfold wX6_gatherMan at h
  refine q_aload_n C 0 rfl rfl dX6_gatherMan_0 ?_
  refine q_get (v := gR (M a0 1 (-1))) C fX6_52 hk0 rfl dX6_gatherMan_1 (fun g1 => ?_)
  obtain ⟨r2, h⟩ := h
  refine q_nn r2 (by decide) ?_
  refine q_aload_n C 2 rfl rfl dX6_gatherMan_4 ?_
  refine q_get (v := .int (gI (M a2 0 (-1)))) C fX6_223 hk2 rfl dX6_gatherMan_5 (fun g3 => ?_)
  have h := h g3
  refine q_aload_n C 2 rfl rfl dX6_gatherMan_8 ?_
  refine q_get (v := .int (gI (M a2 1 (-1)))) C fX6_211 hk2 rfl dX6_gatherMan_9 (fun g4 => ?_)
  have h := h g4
  refine q_aload_n C 2 rfl rfl dX6_gatherMan_12 ?_
  refine q_get (v := .int (gI (M a2 2 (-1)))) C fX6_226 hk2 rfl dX6_gatherMan_13 (fun g5 => ?_)
  have h := h g5
  refine q_aload_n C 2 rfl rfl dX6_gatherMan_16 ?_
  refine q_get (v := .int (gI (M a2 3 (-1)))) C fX6_214 hk2 rfl dX6_gatherMan_17 (fun g6 => ?_)
  have h := h g6
  refine q_callVL (As := [.int (gI (M a2 0 (-1))), .int (gI (M a2 1 (-1))), .int (gI (M a2 2 (-1))), .int (gI (M a2 3 (-1)))]) (st := []) C vX6_84 kX0_manTargets ⟨Nat.le_of_ble_eq_true rfl, Nat.le_of_ble_eq_true rfl⟩ ⟨Nat.le_of_ble_eq_true rfl, Nat.le_of_ble_eq_true rfl⟩ rfl r2 ⟨_, _, rfl⟩ (by decide) rfl (Nat.le_of_ble_eq_true rfl) (mX0_manTargets l D cy kd ln rh _ (M a0 1 (-1)) (M a2 0 (-1)) (M a2 1 (-1)) (M a2 2 (-1)) (M a2 3 (-1)) M r2 h) dX6_gatherMan_20 (fun c8 M7 h => ?_)
  refine q_lstore_n (lv' := [(3, .long (gL c8)), (0, .ref (gad a0)), (1, .ref (gad a1)), (2, .ref (gad a2))]) C rfl (by decide) rfl dX6_gatherMan_23 ?_
  refine q_lload_n C 0 rfl rfl dX6_gatherMan_24 ?_
  refine q_lstore (lv' := [(5, .long (gL c8)), (3, .long (gL c8)), (0, .ref (gad a0)), (1, .ref (gad a1)), (2, .ref (gad a2))]) C (by decide) rfl dX6_gatherMan_25 ?_
  refine q_lv (lv' := [(0, .ref (gad a0)), (1, .ref (gad a1)), (2, .ref (gad a2)), (5, .long (gL c8))]) [2, 3, 4, 0] rfl ?_
  obtain ⟨j27, h⟩ := h
  exact t27  j27 c8 M7 h
set_option maxHeartbeats 4000000 in
set_option maxRecDepth 100000 in
theorem mX6_gather (l : Launch) (D : va_G) (cy : Nat → ClassId) (kd : gKd) (ln : gLn) (rh : gRh) (post : gM → Prop) (a0 : Int) (a1 : Int) (a2 : Int) (M : gM) (hk0 : kd a0 = 6) (hk1 : kd a1 = 1) (hk2 : kd a2 = 4) (h : wX6_gather kd ln post a0 a1 a2 M) : gMV l D cy yX6_gather cX6_gather 3 6 152 [.ref (gad a0), .ref (gad a1), .ref (gad a2)] kd ln rh M post := by
  refine gMV_of (own := RX6) (by decide) rfl (Nat.le_of_ble_eq_true rfl) ?_
  intro p e s m args below meth c A H0 Q C hret
  unfold wX6_gather at h
  refine q_aload_n C 1 rfl rfl dX6_gather_0 ?_
  refine q_iconst C dX6_gather_1 ?_
  refine q_put (x := 0) (ty := .int) C fX6_121 hk1 (fun _ _ _ q => by cases q; rfl) (congrArg (fun z => Value.int (gI z)) gu_s) rfl rfl (show rng 0 by decide) (fun j q => absurd (show (0 : Nat) = j + 3 from q) (by omega)) dX6_gather_2 ?_
  refine q_aload_n C 2 rfl rfl dX6_gather_5 ?_
  refine q_get (v := .int (gI ((gu M a1 0 (-1) 0) a2 4 (-1)))) C fX6_205 hk2 rfl dX6_gather_6 (fun g1 => ?_)
  have h := h g1
  refine q_iconst C dX6_gather_9 ?_
  refine q_icmp_ne (tgt := 22) C g1 (show rng 1 by decide) (by decide) dX6_gather_10 (fun b2 => ?_) (fun b2 => ?_)
  · have h := h.1 b2
    refine q_aload_n C 2 rfl rfl dX6_gather_22 ?_
    refine q_get (v := .int (gI ((gu M a1 0 (-1) 0) a2 1 (-1)))) C fX6_211 hk2 rfl dX6_gather_23 (fun g3 => ?_)
    have h := h g3
    refine q_aload_n C 2 rfl rfl dX6_gather_26 ?_
    refine q_get (v := .int (gI ((gu M a1 0 (-1) 0) a2 3 (-1)))) C fX6_214 hk2 rfl dX6_gather_27 (fun g4 => ?_)
    have h := h g4
    refine q_icmp_ge (tgt := 48) C g3 g4 (by decide) dX6_gather_30 (fun b5 => ?_) (fun b5 => ?_)
    · have h := h.1 b5
      refine q_aload_n C 0 rfl rfl dX6_gather_48 ?_
      refine q_aload_n C 1 rfl rfl dX6_gather_49 ?_
      refine q_aload_n C 2 rfl rfl dX6_gather_50 ?_
      refine q_callVV (As := [.ref (gad a1), .ref (gad a2)]) (st := []) C vX6_220 kX6_gatherMan ⟨Nat.le_of_ble_eq_true rfl, Nat.le_of_ble_eq_true rfl⟩ ⟨Nat.le_of_ble_eq_true rfl, Nat.le_of_ble_eq_true rfl⟩ rfl hk0 ⟨_, _, rfl⟩ (by decide) rfl (Nat.le_of_ble_eq_true rfl) (mX6_gatherMan l D cy kd ln rh _ a0 a1 a2 (gu M a1 0 (-1) 0) hk0 hk1 hk2 h) dX6_gather_51 (fun M6 h => ?_)
      refine q_aload_n C 0 rfl rfl dX6_gather_54 ?_
      refine q_aload_n C 1 rfl rfl dX6_gather_55 ?_
      refine q_aload_n C 2 rfl rfl dX6_gather_56 ?_
      refine q_callVV (As := [.ref (gad a1), .ref (gad a2)]) (st := []) C vX6_217 kX6_gatherKing ⟨Nat.le_of_ble_eq_true rfl, Nat.le_of_ble_eq_true rfl⟩ ⟨Nat.le_of_ble_eq_true rfl, Nat.le_of_ble_eq_true rfl⟩ rfl hk0 ⟨_, _, rfl⟩ (by decide) rfl (Nat.le_of_ble_eq_true rfl) (mX6_gatherKing l D cy kd ln rh _ a0 a1 a2 M6 hk0 hk1 hk2 h) dX6_gather_57 (fun M9 h => ?_)
      exact hret M9 _ _ dX6_gather_60 h
    · have h := h.2 b5
      refine q_aload_n C 0 rfl rfl dX6_gather_33 ?_
      refine q_aload_n C 1 rfl rfl dX6_gather_34 ?_
      refine q_aload_n C 2 rfl rfl dX6_gather_35 ?_
      refine q_callVV (As := [.ref (gad a1), .ref (gad a2)]) (st := []) C vX6_217 kX6_gatherKing ⟨Nat.le_of_ble_eq_true rfl, Nat.le_of_ble_eq_true rfl⟩ ⟨Nat.le_of_ble_eq_true rfl, Nat.le_of_ble_eq_true rfl⟩ rfl hk0 ⟨_, _, rfl⟩ (by decide) rfl (Nat.le_of_ble_eq_true rfl) (mX6_gatherKing l D cy kd ln rh _ a0 a1 a2 (gu M a1 0 (-1) 0) hk0 hk1 hk2 h) dX6_gather_36 (fun M12 h => ?_)
      refine q_aload_n C 0 rfl rfl dX6_gather_39 ?_
      refine q_aload_n C 1 rfl rfl dX6_gather_40 ?_
      refine q_aload_n C 2 rfl rfl dX6_gather_41 ?_
      refine q_callVV (As := [.ref (gad a1), .ref (gad a2)]) (st := []) C vX6_220 kX6_gatherMan ⟨Nat.le_of_ble_eq_true rfl, Nat.le_of_ble_eq_true rfl⟩ ⟨Nat.le_of_ble_eq_true rfl, Nat.le_of_ble_eq_true rfl⟩ rfl hk0 ⟨_, _, rfl⟩ (by decide) rfl (Nat.le_of_ble_eq_true rfl) (mX6_gatherMan l D cy kd ln rh _ a0 a1 a2 M12 hk0 hk1 hk2 h) dX6_gather_42 (fun M15 h => ?_)
      refine q_goto (tgt := 60) C (by decide) dX6_gather_45 ?_
      exact hret M15 _ _ dX6_gather_60 h
  · have h := h.2 b2
    refine q_aload_n C 0 rfl rfl dX6_gather_13 ?_
    refine q_aload_n C 1 rfl rfl dX6_gather_14 ?_
    refine q_aload_n C 2 rfl rfl dX6_gather_15 ?_
    refine q_callVV (As := [.ref (gad a1), .ref (gad a2)]) (st := []) C vX6_208 kX6_gatherBlack ⟨Nat.le_of_ble_eq_true rfl, Nat.le_of_ble_eq_true rfl⟩ ⟨Nat.le_of_ble_eq_true rfl, Nat.le_of_ble_eq_true rfl⟩ rfl hk0 ⟨_, _, rfl⟩ (by decide) rfl (Nat.le_of_ble_eq_true rfl) (mX6_gatherBlack l D cy kd ln rh _ a0 a1 a2 (gu M a1 0 (-1) 0) hk0 hk1 hk2 h) dX6_gather_16 (fun M18 h => ?_)
    refine q_goto (tgt := 60) C (by decide) dX6_gather_19 ?_
    exact hret M18 _ _ dX6_gather_60 h
set_option maxHeartbeats 4000000 in
set_option maxRecDepth 100000 in
theorem mX6_goalAfter (l : Launch) (D : va_G) (cy : Nat → ClassId) (kd : gKd) (ln : gLn) (rh : gRh) (post : Int → gM → Prop) (a0 : Int) (M : gM)  (h : wX6_goalAfter kd ln post a0 M) : gMI l D cy yX6_goalAfter cX6_goalAfter 1 .int 0 0 [.int (gI a0)] kd ln rh M post := by
  refine gMI_of (own := RX6) (by decide) rfl (Nat.le_of_ble_eq_true rfl) ?_
  intro p e s m args below meth c A H0 Q C hret
  unfold wX6_goalAfter at h
  refine q_iload_n C 0 rfl rfl dX6_goalAfter_0 ?_
  refine q_iconst C dX6_goalAfter_1 ?_
  obtain ⟨r1, h⟩ := h
  refine q_icmp_ne (tgt := 9) C r1 (show rng (-1) by decide) (by decide) dX6_goalAfter_2 (fun b2 => ?_) (fun b2 => ?_)
  · have h := h.1 b2
    refine q_iload_n C 0 rfl rfl dX6_goalAfter_9 ?_
    refine q_iconst C dX6_goalAfter_10 ?_
    refine q_isub C dX6_goalAfter_11 ?_
    obtain ⟨r3, h⟩ := h
    exact hret (a0 - 1) M _ _ dX6_goalAfter_12 r3 h
  · have h := h.2 b2
    refine q_iconst C dX6_goalAfter_5 ?_
    refine q_goto (tgt := 12) C (by decide) dX6_goalAfter_6 ?_
    exact hret (-1) M _ _ dX6_goalAfter_12 (show rng (-1) by decide) h
set_option maxHeartbeats 4000000 in
set_option maxRecDepth 100000 in
theorem mX1_keep (l : Launch) (D : va_G) (cy : Nat → ClassId) (kd : gKd) (ln : gLn) (rh : gRh) (post : gM → Prop) (a0 : Int) (a1 : Int) (M : gM) (hk0 : kd a0 = 1) (h : wX1_keep kd ln post a0 a1 M) : gMV l D cy yX1_keep cX1_keep 5 1 25 [.ref (gad a0), .int (gI a1)] kd ln rh M post := by
  refine gMV_of (own := RX1) (by decide) rfl (Nat.le_of_ble_eq_true rfl) ?_
  intro p e s m args below meth c A H0 Q C hret
  have t67 : ∀ (k12 : Int → Int → gM → Prop), (∀ (x2 : Int), ∀ (x3 : Int), ∀ (M : gM), k12 x2 x3 M → gW p l e (gRm 1 25) s m args below meth c D cy A H0 Q 5 kd ln rh 0 0 M 12 [(0, .ref (gad a0)), (1, .int (gI a1)), (2, .int (gI x2)), (3, .int (gI x3))] []) → ∀ (x2 : Int) (x3 : Int) (M : gM), wX1_keep_67 kd ln post a0 a1 k12 x2 x3 M → gW p l e (gRm 1 25) s m args below meth c D cy A H0 Q 5 kd ln rh 0 0 M 67 [(0, .ref (gad a0)), (1, .int (gI a1)), (2, .int (gI x2)), (3, .int (gI x3))] [] := by
    intro k12 hk12_ x2 x3 M h
    unfold wX1_keep_67 at h
    refine q_iinc (lv' := [(3, .int (gI (x3 + 1))), (0, .ref (gad a0)), (1, .int (gI a1)), (2, .int (gI x2))]) C 3 rfl (by decide) rfl dX1_keep_67 ?_
    refine q_goto (tgt := 12) C (by decide) dX1_keep_70 ?_
    refine q_lv (lv' := [(0, .ref (gad a0)), (1, .int (gI a1)), (2, .int (gI x2)), (3, .int (gI (x3 + 1)))]) [1, 2, 3, 0] rfl ?_
    exact hk12_ x2 (x3 + 1) M h
  have t12 : ∀ (n : Nat) (x2 : Int) (x3 : Int) (M : gM), wX1_keep_12 kd ln post a0 a1 n x2 x3 M → gW p l e (gRm 1 25) s m args below meth c D cy A H0 Q 5 kd ln rh 0 0 M 12 [(0, .ref (gad a0)), (1, .int (gI a1)), (2, .int (gI x2)), (3, .int (gI x3))] [] := by
    intro n
    induction n with
    | zero => intro x2 x3 M h; exact absurd h (by simp [wX1_keep_12])
    | succ n ih =>
      intro x2 x3 M h
      have hk12_ := ih
      rw [wX1_keep_12] at h
      refine q_iload_n C 3 rfl rfl dX1_keep_12 ?_
      refine q_iload_n C 2 rfl rfl dX1_keep_13 ?_
      obtain ⟨r3, h⟩ := h
      obtain ⟨r4, h⟩ := h
      refine q_icmp_ge (tgt := 73) C r3 r4 (by decide) dX1_keep_14 (fun b5 => ?_) (fun b5 => ?_)
      · have h := h.1 b5
        exact hret M _ _ dX1_keep_73 h
      · have h := h.2 b5
        refine q_iload_n C 3 rfl rfl dX1_keep_17 ?_
        refine q_iconst C dX1_keep_18 ?_
        refine q_imul C dX1_keep_19 ?_
        refine q_topi (fun v6 ev6 => ?_)
        have h := h v6 ev6
        refine q_istore (lv' := [(4, .int (gI v6)), (0, .ref (gad a0)), (1, .int (gI a1)), (2, .int (gI x2)), (3, .int (gI x3))]) C (by decide) rfl dX1_keep_20 ?_
        refine q_aload_n C 1 rfl rfl dX1_keep_22 ?_
        obtain ⟨r7, h⟩ := h
        refine q_get (v := .ref (rh a0 1)) C fX1_11 hk0 (if_neg (Int.not_lt.mpr r7)) dX1_keep_23 (fun g8 => ?_)
        refine q_iload C 0 rfl dX1_keep_26 ?_
        refine q_iconst C dX1_keep_28 ?_
        refine q_iadd C dX1_keep_29 ?_
        obtain ⟨r9, h⟩ := h
        refine q_iald C hk0 rfl (fun _ q => q) r9 dX1_keep_30 (fun g10 => ?_)
        have h := h g10
        refine q_iload_n C 2 rfl rfl dX1_keep_31 ?_
        obtain ⟨r11, h⟩ := h
        refine q_icmp_ne (tgt := 67) C g10 r11 (by decide) dX1_keep_32 (fun b12 => ?_) (fun b12 => ?_)
        · have h := h.1 b12
          refine q_lv (lv' := [(0, .ref (gad a0)), (1, .int (gI a1)), (2, .int (gI x2)), (3, .int (gI x3))]) [1, 2, 3, 4] rfl ?_
          exact t67 (wX1_keep_12 kd ln post a0 a1 n) hk12_ x2 x3 M h
        · have h := h.2 b12
          refine q_aload_n C 1 rfl rfl dX1_keep_35 ?_
          refine q_aload_n C 1 rfl rfl dX1_keep_36 ?_
          refine q_get (v := .ref (rh a0 1)) C fX1_11 hk0 (if_neg (Int.not_lt.mpr r7)) dX1_keep_37 (fun g13 => ?_)
          refine q_iload C 0 rfl dX1_keep_40 ?_
          refine q_iconst C dX1_keep_42 ?_
          refine q_iadd C dX1_keep_43 ?_
          obtain ⟨r14, h⟩ := h
          refine q_iald C hk0 rfl (fun _ q => q) r14 dX1_keep_44 (fun g15 => ?_)
          have h := h g15
          refine q_aload_n C 1 rfl rfl dX1_keep_45 ?_
          refine q_get (v := .ref (rh a0 1)) C fX1_11 hk0 (if_neg (Int.not_lt.mpr r7)) dX1_keep_46 (fun g16 => ?_)
          refine q_iload C 0 rfl dX1_keep_49 ?_
          refine q_iconst C dX1_keep_51 ?_
          refine q_iadd C dX1_keep_52 ?_
          obtain ⟨r17, h⟩ := h
          refine q_iald C hk0 rfl (fun _ q => q) r17 dX1_keep_53 (fun g18 => ?_)
          have h := h g18
          refine q_aload_n C 1 rfl rfl dX1_keep_54 ?_
          refine q_get (v := .ref (rh a0 1)) C fX1_11 hk0 (if_neg (Int.not_lt.mpr r7)) dX1_keep_55 (fun g19 => ?_)
          refine q_iload C 0 rfl dX1_keep_58 ?_
          refine q_iconst C dX1_keep_60 ?_
          refine q_iadd C dX1_keep_61 ?_
          obtain ⟨r20, h⟩ := h
          refine q_iald C hk0 rfl (fun _ q => q) r20 dX1_keep_62 (fun g21 => ?_)
          have h := h g21
          refine q_iload_n C 2 rfl rfl dX1_keep_63 ?_
          refine q_callVV (As := [.int (gI (M a0 1 (v6 + 0))), .int (gI (M a0 1 (v6 + 1))), .int (gI (M a0 1 (v6 + 2))), .int (gI a1)]) (st := []) C vX1_19 kX1_add ⟨Nat.le_of_ble_eq_true rfl, Nat.le_of_ble_eq_true rfl⟩ ⟨Nat.le_of_ble_eq_true rfl, Nat.le_of_ble_eq_true rfl⟩ rfl hk0 ⟨_, _, rfl⟩ (by decide) rfl (Nat.le_of_ble_eq_true rfl) (mX1_add l D cy kd ln rh _ a0 (M a0 1 (v6 + 0)) (M a0 1 (v6 + 1)) (M a0 1 (v6 + 2)) a1 M hk0 h) dX1_keep_64 (fun M22 h => ?_)
          refine q_lv (lv' := [(0, .ref (gad a0)), (1, .int (gI a1)), (2, .int (gI x2)), (3, .int (gI x3))]) [1, 2, 3, 4] rfl ?_
          exact t67 (wX1_keep_12 kd ln post a0 a1 n) hk12_ x2 x3 M22 h
  unfold wX1_keep at h
  refine q_aload_n C 0 rfl rfl dX1_keep_0 ?_
  refine q_get (v := .int (gI (M a0 0 (-1)))) C fX1_15 hk0 rfl dX1_keep_1 (fun g1 => ?_)
  have h := h g1
  refine q_topi (fun v2 ev2 => ?_)
  have h := h v2 ev2
  have gv2 : rng v2 := by rw [ev2]; exact g1
  refine q_istore_n (lv' := [(2, .int (gI v2)), (0, .ref (gad a0)), (1, .int (gI a1))]) C rfl (by decide) rfl dX1_keep_4 ?_
  refine q_aload_n C 1 rfl rfl dX1_keep_5 ?_
  refine q_iconst C dX1_keep_6 ?_
  refine q_put (x := 0) (ty := .int) C fX1_15 hk0 (fun _ _ _ q => by cases q; rfl) (congrArg (fun z => Value.int (gI z)) gu_s) rfl rfl (show rng 0 by decide) (fun j q => absurd (show (0 : Nat) = j + 3 from q) (by omega)) dX1_keep_7 ?_
  refine q_iconst C dX1_keep_10 ?_
  refine q_istore_n (lv' := [(3, .int (gI 0)), (2, .int (gI v2)), (0, .ref (gad a0)), (1, .int (gI a1))]) C rfl (by decide) rfl dX1_keep_11 ?_
  refine q_lv (lv' := [(0, .ref (gad a0)), (1, .int (gI a1)), (2, .int (gI v2)), (3, .int (gI 0))]) [2, 3, 1, 0] rfl ?_
  obtain ⟨j12, h⟩ := h
  exact t12  j12 v2 0 (gu M a0 0 (-1) 0) h
set_option maxHeartbeats 4000000 in
set_option maxRecDepth 100000 in
theorem mX6_best (l : Launch) (D : va_G) (cy : Nat → ClassId) (kd : gKd) (ln : gLn) (rh : gRh) (post : Int → gM → Prop) (px : gM → Prop) (a0 : Int) (a1 : Int) (a2 : Int) (a3 : Int) (a4 : Int) (a5 : Int) (M : gM) (hst : l.stackTraces = false) (hk0 : kd a0 = 6) (h : wX6_best kd ln post px a0 a1 a2 a3 a4 a5 M) : gTI l D cy yX6_best cX6_best 7 .int 8 174 [.ref (gad a0), .int (gI a1), .int (gI a2), .int (gI a3), .int (gI a4), .int (gI a5)] kd ln rh M post px := by
  refine gTI_of (own := RX6) (by decide) rfl (Nat.le_of_ble_eq_true rfl) hst rfl ?_
  intro p e s m args below meth c A H0 Q C hret hthr hexc
  unfold wX6_best at h
  refine q_aload_n C 0 rfl rfl dX6_best_0 ?_
  refine q_iload_n C 1 rfl rfl dX6_best_1 ?_
  refine q_iload_n C 2 rfl rfl dX6_best_2 ?_
  refine q_iload_n C 3 rfl rfl dX6_best_3 ?_
  refine q_iload C 4 rfl dX6_best_4 ?_
  refine q_iload C 5 rfl dX6_best_6 ?_
  refine q_callTR (As := [.int (gI a1), .int (gI a2), .int (gI a3), .int (gI a4), .int (gI a5)]) (st := []) C vX6_98 kX6_demandTable ⟨Nat.le_of_ble_eq_true rfl, Nat.le_of_ble_eq_true rfl⟩ ⟨Nat.le_of_ble_eq_true rfl, Nat.le_of_ble_eq_true rfl⟩ rfl hk0 ⟨_, _, rfl⟩ (by decide) rfl (Nat.le_of_ble_eq_true rfl) (mX6_demandTable l D cy kd ln rh _ _ a0 a1 a2 a3 a4 a5 M hst hk0 h) dX6_best_8 (fun M9 h => hexc M9 _ _ _ _ _ (by decide) (by decide) h) (fun c2 M1 h => ?_)
  refine q_iload_n C 2 rfl rfl dX6_best_11 ?_
  refine q_iload_n C 3 rfl rfl dX6_best_12 ?_
  refine q_iload C 4 rfl dX6_best_13 ?_
  refine q_iload C 5 rfl dX6_best_15 ?_
  obtain ⟨r4, h⟩ := h
  refine q_callVI (As := [.int (gI a2), .int (gI a3), .int (gI a4), .int (gI a5)]) (st := []) C vX6_102 kX5_look ⟨Nat.le_of_ble_eq_true rfl, Nat.le_of_ble_eq_true rfl⟩ ⟨Nat.le_of_ble_eq_true rfl, Nat.le_of_ble_eq_true rfl⟩ rfl r4 ⟨_, _, rfl⟩ (by decide) rfl (Nat.le_of_ble_eq_true rfl) (mX5_look l D cy kd ln rh _ c2 a2 a3 a4 a5 M1 r4 h) dX6_best_17 (fun c6 M5 g7 h => ?_)
  have h := h g7
  refine q_istore (lv' := [(6, .int (gI c6)), (0, .ref (gad a0)), (1, .int (gI a1)), (2, .int (gI a2)), (3, .int (gI a3)), (4, .int (gI a4)), (5, .int (gI a5))]) C (by decide) rfl dX6_best_20 ?_
  refine q_aload_n C 1 rfl rfl dX6_best_22 ?_
  refine q_get (v := gR (M5 a0 4 (-1))) C fX6_29 hk0 rfl dX6_best_23 (fun g8 => ?_)
  obtain ⟨r9, h⟩ := h
  refine q_nn r9 (by decide) ?_
  refine q_iload_n C 2 rfl rfl dX6_best_26 ?_
  refine q_iload_n C 3 rfl rfl dX6_best_27 ?_
  refine q_iload_n C 4 rfl rfl dX6_best_28 ?_
  refine q_iload C 5 rfl dX6_best_29 ?_
  refine q_iload C 6 rfl dX6_best_31 ?_
  refine q_callVV (As := [.int (gI a1), .int (gI a2), .int (gI a3), .int (gI a4), .int (gI a5)]) (st := []) C vX6_106 kX4_set ⟨Nat.le_of_ble_eq_true rfl, Nat.le_of_ble_eq_true rfl⟩ ⟨Nat.le_of_ble_eq_true rfl, Nat.le_of_ble_eq_true rfl⟩ rfl r9 ⟨_, _, rfl⟩ (by decide) rfl (Nat.le_of_ble_eq_true rfl) (mX4_set l D cy kd ln rh _ (M5 a0 4 (-1)) a1 a2 a3 a4 a5 M5 r9 h) dX6_best_33 (fun M10 h => ?_)
  refine q_aload_n C 1 rfl rfl dX6_best_36 ?_
  refine q_aload_n C 1 rfl rfl dX6_best_37 ?_
  refine q_get (v := gR (M10 a0 3 (-1))) C fX6_22 hk0 rfl dX6_best_38 (fun g13 => ?_)
  obtain ⟨r14, h⟩ := h
  refine q_nn r14 (by decide) ?_
  refine q_aload_n C 1 rfl rfl dX6_best_41 ?_
  refine q_get (v := gR (M10 a0 4 (-1))) C fX6_29 hk0 rfl dX6_best_42 (fun g15 => ?_)
  obtain ⟨r16, h⟩ := h
  refine q_nn r16 (by decide) ?_
  refine q_callVV (As := [.ref (gad (M10 a0 3 (-1))), .ref (gad (M10 a0 4 (-1)))]) (st := []) C vX6_110 kX6_gather ⟨Nat.le_of_ble_eq_true rfl, Nat.le_of_ble_eq_true rfl⟩ ⟨Nat.le_of_ble_eq_true rfl, Nat.le_of_ble_eq_true rfl⟩ rfl hk0 ⟨_, _, rfl⟩ (by decide) rfl (Nat.le_of_ble_eq_true rfl) (mX6_gather l D cy kd ln rh _ a0 (M10 a0 3 (-1)) (M10 a0 4 (-1)) M10 hk0 r14 r16 h) dX6_best_45 (fun M17 h => ?_)
  refine q_aload_n C 1 rfl rfl dX6_best_48 ?_
  refine q_get (v := gR (M17 a0 3 (-1))) C fX6_22 hk0 rfl dX6_best_49 (fun g20 => ?_)
  obtain ⟨r21, h⟩ := h
  refine q_nn r21 (by decide) ?_
  refine q_iload C 0 rfl dX6_best_52 ?_
  refine q_callSI (As := [.int (gI c6)]) (st := [.ref (gad (M17 a0 3 (-1)))]) C vX6_114 kX6_goalAfter ⟨Nat.le_of_ble_eq_true rfl, Nat.le_of_ble_eq_true rfl⟩ ⟨Nat.le_of_ble_eq_true rfl, Nat.le_of_ble_eq_true rfl⟩ rfl rfl (Nat.le_of_ble_eq_true rfl) (mX6_goalAfter l D cy kd ln rh _ c6 M17  h) dX6_best_54 (fun c23 M22 g24 h => ?_)
  have h := h g24
  refine q_callVV (As := [.int (gI c23)]) (st := []) C vX6_118 kX1_keep ⟨Nat.le_of_ble_eq_true rfl, Nat.le_of_ble_eq_true rfl⟩ ⟨Nat.le_of_ble_eq_true rfl, Nat.le_of_ble_eq_true rfl⟩ rfl r21 ⟨_, _, rfl⟩ (by decide) rfl (Nat.le_of_ble_eq_true rfl) (mX1_keep l D cy kd ln rh _ (M17 a0 3 (-1)) c23 M22 r21 h) dX6_best_57 (fun M25 h => ?_)
  refine q_aload_n C 1 rfl rfl dX6_best_60 ?_
  refine q_get (v := gR (M25 a0 3 (-1))) C fX6_22 hk0 rfl dX6_best_61 (fun g28 => ?_)
  obtain ⟨r29, h⟩ := h
  refine q_nn r29 (by decide) ?_
  refine q_get (v := .int (gI (M25 (M25 a0 3 (-1)) 0 (-1)))) C fX6_121 r29 rfl dX6_best_64 (fun g30 => ?_)
  have h := h g30
  exact hret (M25 (M25 a0 3 (-1)) 0 (-1)) M25 _ _ 1 6 (by decide) (by decide) dX6_best_67 g30 h
set_option maxHeartbeats 4000000 in
set_option maxRecDepth 100000 in
theorem mX6_demandTurn (l : Launch) (D : va_G) (cy : Nat → ClassId) (kd : gKd) (ln : gLn) (rh : gRh) (post : Int → gM → Prop) (px : gM → Prop) (a0 : Int) (a1 : Int) (a2 : Int) (M : gM) (hst : l.stackTraces = false) (hk0 : kd a0 = 6) (h : wX6_demandTurn kd ln post px a0 a1 a2 M) : gTR l D cy yX6_demandTurn cX6_demandTurn 3 RX5 7 118 [.ref (gad a0), .int (gI a1), .int (gI a2)] kd ln rh M post px := by
  refine gTR_of (own := RX6) (by decide) rfl (Nat.le_of_ble_eq_true rfl) hst rfl ?_
  intro p e s m args below meth c A H0 Q C hret hthr hexc
  have t19 : ∀ (M : gM), wX6_demandTurn_19 kd ln post px a0 a1 a2  M → gW p l e (gRt 7 118) s m args below meth c D cy A H0 Q 3 kd ln rh 0 0 M 19 [(0, .ref (gad a0)), (1, .int (gI a1))] [] := by
    intro   M h
    unfold wX6_demandTurn_19 at h
    refine q_aload_n C 0 rfl rfl dX6_demandTurn_19 ?_
    refine q_iload_n C 1 rfl rfl dX6_demandTurn_20 ?_
    refine q_callTR (As := [.int (gI a1)]) (st := []) C vX6_138 kX6_demandMade ⟨Nat.le_of_ble_eq_true rfl, Nat.le_of_ble_eq_true rfl⟩ ⟨Nat.le_of_ble_eq_true rfl, Nat.le_of_ble_eq_true rfl⟩ rfl hk0 ⟨_, _, rfl⟩ (by decide) rfl (Nat.le_of_ble_eq_true rfl) (mX6_demandMade l D cy kd ln rh _ _ a0 a1 M hst hk0 h) dX6_demandTurn_21 (fun M9 h => hexc M9 _ _ _ _ _ (by decide) (by decide) h) (fun c5 M4 h => ?_)
    exact hret c5 M4 _ _ 1 6 (by decide) (by decide) dX6_demandTurn_24 h
  unfold wX6_demandTurn at h
  refine q_iload_n C 2 rfl rfl dX6_demandTurn_0 ?_
  obtain ⟨r1, h⟩ := h
  refine q_if_eq (tgt := 19) C r1 (by decide) dX6_demandTurn_1 (fun b2 => ?_) (fun b2 => ?_)
  · have h := h.1 b2
    refine q_lv (lv' := [(0, .ref (gad a0)), (1, .int (gI a1))]) [0, 1] rfl ?_
    exact t19  M h
  · have h := h.2 b2
    refine q_iload_n C 2 rfl rfl dX6_demandTurn_4 ?_
    refine q_iconst C dX6_demandTurn_5 ?_
    refine q_icmp_eq (tgt := 19) C r1 (show rng 1 by decide) (by decide) dX6_demandTurn_6 (fun b3 => ?_) (fun b3 => ?_)
    · have h := h.1 b3
      refine q_lv (lv' := [(0, .ref (gad a0)), (1, .int (gI a1))]) [0, 1] rfl ?_
      exact t19  M h
    · have h := h.2 b3
      exact hthr (201, "no such turn", 24) M _ _ _ (by decide) dX6_demandTurn_9 dX6_demandTurn_12 dX6_demandTurn_13 dX6_demandTurn_15 dX6_demandTurn_18 (by decide) (Nat.le_of_ble_eq_true rfl) h
set_option maxHeartbeats 4000000 in
set_option maxRecDepth 100000 in
theorem mX5_howManyAt (l : Launch) (D : va_G) (cy : Nat → ClassId) (kd : gKd) (ln : gLn) (rh : gRh) (post : Int → gM → Prop) (a0 : Int) (a1 : Int) (a2 : Int) (M : gM) (hk0 : kd a0 = 5) (h : wX5_howManyAt kd ln post a0 a1 a2 M) : gMI l D cy yX5_howManyAt cX5_howManyAt 3 .int 0 0 [.ref (gad a0), .int (gI a1), .int (gI a2)] kd ln rh M post := by
  refine gMI_of (own := RX5) (by decide) rfl (Nat.le_of_ble_eq_true rfl) ?_
  intro p e s m args below meth c A H0 Q C hret
  have t10 : ∀ (M : gM), wX5_howManyAt_10 kd ln post a0 a1 a2  M → gW p l e (gRm 0 0) s m args below meth c D cy A H0 Q 3 kd ln rh 0 0 M 10 [] [] := by
    intro   M h
    unfold wX5_howManyAt_10 at h
    refine q_iconst C dX5_howManyAt_10 ?_
    refine q_goto (tgt := 24) C (by decide) dX5_howManyAt_11 ?_
    exact hret 0 M _ _ dX5_howManyAt_24 (show rng 0 by decide) h
  unfold wX5_howManyAt at h
  refine q_iload_n C 2 rfl rfl dX5_howManyAt_0 ?_
  obtain ⟨r1, h⟩ := h
  refine q_if_lt (tgt := 10) C r1 (by decide) dX5_howManyAt_1 (fun b2 => ?_) (fun b2 => ?_)
  · have h := h.1 b2
    refine q_lv (lv' := []) [] rfl ?_
    exact t10  M h
  · have h := h.2 b2
    refine q_iload_n C 2 rfl rfl dX5_howManyAt_4 ?_
    refine q_bipush C (by decide) dX5_howManyAt_5 ?_
    refine q_icmp_le (tgt := 14) C r1 (show rng 126 by decide) (by decide) dX5_howManyAt_7 (fun b3 => ?_) (fun b3 => ?_)
    · have h := h.1 b3
      refine q_aload_n C 0 rfl rfl dX5_howManyAt_14 ?_
      obtain ⟨r4, h⟩ := h
      refine q_get (v := .ref (rh a0 10)) C fX5_24 hk0 (if_neg (Int.not_lt.mpr r4)) dX5_howManyAt_15 (fun g5 => ?_)
      refine q_iconst C dX5_howManyAt_18 ?_
      refine q_iload_n C 2 rfl rfl dX5_howManyAt_19 ?_
      refine q_imul C dX5_howManyAt_20 ?_
      refine q_iload_n C 1 rfl rfl dX5_howManyAt_21 ?_
      refine q_iadd C dX5_howManyAt_22 ?_
      obtain ⟨r6, h⟩ := h
      refine q_iald C hk0 rfl (fun _ q => q) r6 dX5_howManyAt_23 (fun g7 => ?_)
      have h := h g7
      exact hret (M a0 10 ((2 * a2) + a1)) M _ _ dX5_howManyAt_24 g7 h
    · have h := h.2 b3
      refine q_lv (lv' := []) [] rfl ?_
      exact t10  M h
set_option maxHeartbeats 4000000 in
set_option maxRecDepth 100000 in
theorem mX6_count (l : Launch) (D : va_G) (cy : Nat → ClassId) (kd : gKd) (ln : gLn) (rh : gRh) (post : Int → gM → Prop) (px : gM → Prop) (a0 : Int) (a1 : Int) (a2 : Int) (a3 : Int) (M : gM) (hst : l.stackTraces = false) (hk0 : kd a0 = 6) (h : wX6_count kd ln post px a0 a1 a2 a3 M) : gTI l D cy yX6_count cX6_count 5 .int 8 140 [.ref (gad a0), .int (gI a1), .int (gI a2), .int (gI a3)] kd ln rh M post px := by
  refine gTI_of (own := RX6) (by decide) rfl (Nat.le_of_ble_eq_true rfl) hst rfl ?_
  intro p e s m args below meth c A H0 Q C hret hthr hexc
  unfold wX6_count at h
  refine q_aload_n C 0 rfl rfl dX6_count_0 ?_
  refine q_iload_n C 1 rfl rfl dX6_count_1 ?_
  refine q_iload_n C 2 rfl rfl dX6_count_2 ?_
  refine q_callTR (As := [.int (gI a1), .int (gI a2)]) (st := []) C vX6_145 kX6_demandTurn ⟨Nat.le_of_ble_eq_true rfl, Nat.le_of_ble_eq_true rfl⟩ ⟨Nat.le_of_ble_eq_true rfl, Nat.le_of_ble_eq_true rfl⟩ rfl hk0 ⟨_, _, rfl⟩ (by decide) rfl (Nat.le_of_ble_eq_true rfl) (mX6_demandTurn l D cy kd ln rh _ _ a0 a1 a2 M hst hk0 h) dX6_count_3 (fun M9 h => hexc M9 _ _ _ _ _ (by decide) (by decide) h) (fun c2 M1 h => ?_)
  refine q_astore (lv' := [(4, .ref (gad c2)), (0, .ref (gad a0)), (1, .int (gI a1)), (2, .int (gI a2)), (3, .int (gI a3))]) C (by decide) rfl dX6_count_6 ?_
  refine q_iload_n C 4 rfl rfl dX6_count_8 ?_
  obtain ⟨r4, h⟩ := h
  rcases (show (a3 < (-3) ∨ (-1) < a3) ∨ a3 = (-3) ∨ a3 = (-2) ∨ a3 = (-1) by omega) with b5 | b5 | b5 | b5
  · have h := h.1 b5
    refine q_tswOut (tgt := 58) C r4 b5 (by decide) dX6_count_9 ?_
    refine q_aload C 0 rfl dX6_count_58 ?_
    refine q_iload_n C 3 rfl rfl dX6_count_60 ?_
    refine q_iload_n C 4 rfl rfl dX6_count_61 ?_
    obtain ⟨r6, h⟩ := h
    refine q_callVI (As := [.int (gI a2), .int (gI a3)]) (st := []) C vX6_158 kX5_howManyAt ⟨Nat.le_of_ble_eq_true rfl, Nat.le_of_ble_eq_true rfl⟩ ⟨Nat.le_of_ble_eq_true rfl, Nat.le_of_ble_eq_true rfl⟩ rfl r6 ⟨_, _, rfl⟩ (by decide) rfl (Nat.le_of_ble_eq_true rfl) (mX5_howManyAt l D cy kd ln rh _ c2 a2 a3 M1 r6 h) dX6_count_62 (fun c8 M7 g9 h => ?_)
    have h := h g9
    exact hret c8 M7 _ _ 1 6 (by decide) (by decide) dX6_count_65 g9 h
  · have h := h.2.1 b5
    refine q_tswIn (tgt := 52) (off := 43) C r4 (by omega) (by omega) (by rw [b5]; rfl) (by decide) dX6_count_9 ?_
    refine q_aload C 0 rfl dX6_count_52 ?_
    obtain ⟨r10, h⟩ := h
    refine q_get (v := .int (gI (M1 c2 7 (-1)))) C fX6_155 r10 rfl dX6_count_54 (fun g11 => ?_)
    have h := h g11
    exact hret (M1 c2 7 (-1)) M1 _ _ 1 6 (by decide) (by decide) dX6_count_57 g11 h
  · have h := h.2.2.1 b5
    refine q_tswIn (tgt := 44) (off := 35) C r4 (by omega) (by omega) (by rw [b5]; rfl) (by decide) dX6_count_9 ?_
    refine q_aload C 0 rfl dX6_count_44 ?_
    obtain ⟨r12, h⟩ := h
    obtain ⟨r13, h⟩ := h
    refine q_get (v := .ref (rh c2 4)) C fX6_152 r12 (if_neg (Int.not_lt.mpr r13)) dX6_count_46 (fun g14 => ?_)
    refine q_iload_n C 3 rfl rfl dX6_count_49 ?_
    obtain ⟨r15, h⟩ := h
    refine q_iald C r12 rfl (fun _ q => q) r15 dX6_count_50 (fun g16 => ?_)
    have h := h g16
    exact hret (M1 c2 4 a2) M1 _ _ 1 6 (by decide) (by decide) dX6_count_51 g16 h
  · have h := h.2.2.2 b5
    refine q_tswIn (tgt := 36) (off := 27) C r4 (by omega) (by omega) (by rw [b5]; rfl) (by decide) dX6_count_9 ?_
    refine q_aload C 0 rfl dX6_count_36 ?_
    obtain ⟨r17, h⟩ := h
    obtain ⟨r18, h⟩ := h
    refine q_get (v := .ref (rh c2 3)) C fX6_149 r17 (if_neg (Int.not_lt.mpr r18)) dX6_count_38 (fun g19 => ?_)
    refine q_iload_n C 3 rfl rfl dX6_count_41 ?_
    obtain ⟨r20, h⟩ := h
    refine q_iald C r17 rfl (fun _ q => q) r20 dX6_count_42 (fun g21 => ?_)
    have h := h g21
    exact hret (M1 c2 3 a2) M1 _ _ 1 6 (by decide) (by decide) dX6_count_43 g21 h
set_option maxHeartbeats 4000000 in
set_option maxRecDepth 100000 in
theorem mX6_distance (l : Launch) (D : va_G) (cy : Nat → ClassId) (kd : gKd) (ln : gLn) (rh : gRh) (post : Int → gM → Prop) (px : gM → Prop) (a0 : Int) (a1 : Int) (a2 : Int) (a3 : Int) (a4 : Int) (a5 : Int) (M : gM) (hst : l.stackTraces = false) (hk0 : kd a0 = 6) (h : wX6_distance kd ln post px a0 a1 a2 a3 a4 a5 M) : gTI l D cy yX6_distance cX6_distance 6 .int 8 143 [.ref (gad a0), .int (gI a1), .int (gI a2), .int (gI a3), .int (gI a4), .int (gI a5)] kd ln rh M post px := by
  refine gTI_of (own := RX6) (by decide) rfl (Nat.le_of_ble_eq_true rfl) hst rfl ?_
  intro p e s m args below meth c A H0 Q C hret hthr hexc
  unfold wX6_distance at h
  refine q_aload_n C 0 rfl rfl dX6_distance_0 ?_
  refine q_iload_n C 1 rfl rfl dX6_distance_1 ?_
  refine q_iload_n C 2 rfl rfl dX6_distance_2 ?_
  refine q_iload_n C 3 rfl rfl dX6_distance_3 ?_
  refine q_iload C 4 rfl dX6_distance_4 ?_
  refine q_iload C 5 rfl dX6_distance_6 ?_
  refine q_callTR (As := [.int (gI a1), .int (gI a2), .int (gI a3), .int (gI a4), .int (gI a5)]) (st := []) C vX6_98 kX6_demandTable ⟨Nat.le_of_ble_eq_true rfl, Nat.le_of_ble_eq_true rfl⟩ ⟨Nat.le_of_ble_eq_true rfl, Nat.le_of_ble_eq_true rfl⟩ rfl hk0 ⟨_, _, rfl⟩ (by decide) rfl (Nat.le_of_ble_eq_true rfl) (mX6_demandTable l D cy kd ln rh _ _ a0 a1 a2 a3 a4 a5 M hst hk0 h) dX6_distance_8 (fun M9 h => hexc M9 _ _ _ _ _ (by decide) (by decide) h) (fun c2 M1 h => ?_)
  refine q_iload_n C 2 rfl rfl dX6_distance_11 ?_
  refine q_iload_n C 3 rfl rfl dX6_distance_12 ?_
  refine q_iload C 4 rfl dX6_distance_13 ?_
  refine q_iload C 5 rfl dX6_distance_15 ?_
  obtain ⟨r4, h⟩ := h
  refine q_callVI (As := [.int (gI a2), .int (gI a3), .int (gI a4), .int (gI a5)]) (st := []) C vX6_102 kX5_look ⟨Nat.le_of_ble_eq_true rfl, Nat.le_of_ble_eq_true rfl⟩ ⟨Nat.le_of_ble_eq_true rfl, Nat.le_of_ble_eq_true rfl⟩ rfl r4 ⟨_, _, rfl⟩ (by decide) rfl (Nat.le_of_ble_eq_true rfl) (mX5_look l D cy kd ln rh _ c2 a2 a3 a4 a5 M1 r4 h) dX6_distance_17 (fun c6 M5 g7 h => ?_)
  have h := h g7
  exact hret c6 M5 _ _ 1 6 (by decide) (by decide) dX6_distance_20 g7 h
set_option maxHeartbeats 4000000 in
set_option maxRecDepth 100000 in
theorem mX1_init (l : Launch) (D : va_G) (cy : Nat → ClassId) (mc ms : Nat) (kd : gKd) (ln : gLn) (rh : gRh) (post : gKd → gLn → gM → Prop) (a0 : Int) (M : gM) (hk0 : kd a0 = 1) (h : wX1_init mc ms kd ln post a0 M) : gXV l D cy yX1_init cX1_init 1 1 32 mc ms [.ref (gad a0)] kd ln rh M post := by
  refine gXV_of (own := RX1) (by decide) rfl (Nat.le_of_ble_eq_true rfl) ?_
  intro p e s m args below meth c A H0 Q C hin hret
  unfold wX1_init at h
  refine q_aload_n C 0 rfl rfl dX1_init_0 ?_
  refine q_objInit (o := a0) C obX1_3 (Nat.le_of_ble_eq_true rfl) (Nat.le_of_ble_eq_true rfl) dX1_init_1 ?_
  refine q_aload_n C 0 rfl rfl dX1_init_4 ?_
  refine q_sipush C (by decide) dX1_init_5 ?_
  obtain ⟨r1, h⟩ := h
  obtain ⟨r2, h⟩ := h
  refine q_newput (t0 := 0) (ty := .int) C hin fX1_11 (fun _ _ _ q => by cases q; rfl) hk0 rfl rfl ac8 rfl (fun _ => rfl) (fun _ _ _ => rfl) (fun _ _ _ q => by cases q; rfl) r1 (show 0 ≤ (144 : Int) ∧ (144 : Int) ≤ 67108864 by decide) (by decide) r2.1 r2.2 dX1_init_8 dX1_init_10 (fun ln3 rh4 e5 kn6 => ?_)
  have h := h ln3 e5
  have kp7 := gKp_t gKp_r kn6
  exact hret kd ln3 rh4 (gza M a0 1) _ _ _ _ r2.1 r2.2 kp7 dX1_init_13 h
set_option maxHeartbeats 4000000 in
set_option maxRecDepth 100000 in
theorem mX4_init (l : Launch) (D : va_G) (cy : Nat → ClassId) (mc ms : Nat) (kd : gKd) (ln : gLn) (rh : gRh) (post : gKd → gLn → gM → Prop) (a0 : Int) (M : gM) (hk0 : kd a0 = 4) (h : wX4_init mc ms kd ln post a0 M) : gXV l D cy yX4_init cX4_init 1 1 32 mc ms [.ref (gad a0)] kd ln rh M post := by
  refine gXV_of (own := RX4) (by decide) rfl (Nat.le_of_ble_eq_true rfl) ?_
  intro p e s m args below meth c A H0 Q C hin hret
  unfold wX4_init at h
  refine q_aload_n C 0 rfl rfl dX4_init_0 ?_
  refine q_objInit (o := a0) C obX4_3 (Nat.le_of_ble_eq_true rfl) (Nat.le_of_ble_eq_true rfl) dX4_init_1 ?_
  exact hret kd ln rh M _ _ _ _ (Nat.zero_le _) (Nat.zero_le _) gKp_r dX4_init_4 h
set_option maxHeartbeats 4000000 in
set_option maxRecDepth 100000 in
theorem mX0_squareAt (l : Launch) (D : va_G) (cy : Nat → ClassId) (kd : gKd) (ln : gLn) (rh : gRh) (post : Int → gM → Prop) (a0 : Int) (a1 : Int) (a2 : Int) (M : gM) (hk0 : kd a0 = 0) (h : wX0_squareAt kd ln post a0 a1 a2 M) : gMI l D cy yX0_squareAt cX0_squareAt 3 .int 0 0 [.ref (gad a0), .int (gI a1), .int (gI a2)] kd ln rh M post := by
  refine gMI_of (own := RX0) (by decide) rfl (Nat.le_of_ble_eq_true rfl) ?_
  intro p e s m args below meth c A H0 Q C hret
  have t24 : ∀ (M : gM), wX0_squareAt_24 kd ln post a0 a1 a2  M → gW p l e (gRm 0 0) s m args below meth c D cy A H0 Q 3 kd ln rh 0 0 M 24 [] [] := by
    intro   M h
    unfold wX0_squareAt_24 at h
    refine q_iconst C dX0_squareAt_24 ?_
    refine q_goto (tgt := 36) C (by decide) dX0_squareAt_25 ?_
    exact hret (-1) M _ _ dX0_squareAt_36 (show rng (-1) by decide) h
  unfold wX0_squareAt at h
  refine q_iload_n C 1 rfl rfl dX0_squareAt_0 ?_
  obtain ⟨r1, h⟩ := h
  refine q_if_lt (tgt := 24) C r1 (by decide) dX0_squareAt_1 (fun b2 => ?_) (fun b2 => ?_)
  · have h := h.1 b2
    refine q_lv (lv' := []) [] rfl ?_
    exact t24  M h
  · have h := h.2 b2
    refine q_iload_n C 1 rfl rfl dX0_squareAt_4 ?_
    refine q_aload_n C 0 rfl rfl dX0_squareAt_5 ?_
    refine q_get (v := .int (gI (M a0 0 (-1)))) C fX0_17 hk0 rfl dX0_squareAt_6 (fun g3 => ?_)
    have h := h g3
    refine q_icmp_ge (tgt := 24) C r1 g3 (by decide) dX0_squareAt_9 (fun b4 => ?_) (fun b4 => ?_)
    · have h := h.1 b4
      refine q_lv (lv' := []) [] rfl ?_
      exact t24  M h
    · have h := h.2 b4
      refine q_iload_n C 2 rfl rfl dX0_squareAt_12 ?_
      obtain ⟨r5, h⟩ := h
      refine q_if_lt (tgt := 24) C r5 (by decide) dX0_squareAt_13 (fun b6 => ?_) (fun b6 => ?_)
      · have h := h.1 b6
        refine q_lv (lv' := []) [] rfl ?_
        exact t24  M h
      · have h := h.2 b6
        refine q_iload_n C 2 rfl rfl dX0_squareAt_16 ?_
        refine q_aload_n C 0 rfl rfl dX0_squareAt_17 ?_
        refine q_get (v := .int (gI (M a0 0 (-1)))) C fX0_17 hk0 rfl dX0_squareAt_18 (fun g7 => ?_)
        refine q_icmp_lt (tgt := 28) C r5 g3 (by decide) dX0_squareAt_21 (fun b8 => ?_) (fun b8 => ?_)
        · have h := h.1 b8
          refine q_aload_n C 0 rfl rfl dX0_squareAt_28 ?_
          refine q_get (v := .int (gI (M a0 0 (-1)))) C fX0_17 hk0 rfl dX0_squareAt_29 (fun g9 => ?_)
          refine q_iload_n C 1 rfl rfl dX0_squareAt_32 ?_
          refine q_imul C dX0_squareAt_33 ?_
          refine q_iload_n C 2 rfl rfl dX0_squareAt_34 ?_
          refine q_iadd C dX0_squareAt_35 ?_
          obtain ⟨r10, h⟩ := h
          exact hret (((M a0 0 (-1)) * a1) + a2) M _ _ dX0_squareAt_36 r10 h
        · have h := h.2 b8
          refine q_lv (lv' := []) [] rfl ?_
          exact t24  M h
set_option maxHeartbeats 4000000 in
set_option maxRecDepth 100000 in
theorem mX0_lookAlong (l : Launch) (D : va_G) (cy : Nat → ClassId) (kd : gKd) (ln : gLn) (rh : gRh) (post : BitVec 64 → gM → Prop) (a0 : Int) (a1 : Int) (a2 : Int) (a3 : Int) (M : gM) (hk0 : kd a0 = 0) (h : wX0_lookAlong kd ln post a0 a1 a2 a3 M) : gML l D cy yX0_lookAlong cX0_lookAlong 8 1 22 [.ref (gad a0), .int (gI a1), .int (gI a2), .int (gI a3)] kd ln rh M post := by
  refine gML_of (own := RX0) (by decide) rfl (Nat.le_of_ble_eq_true rfl) ?_
  intro p e s m args below meth c A H0 Q C hret
  have t76 : ∀ (k11 : BitVec 64 → Int → gM → Prop), (∀ (x4 : BitVec 64), ∀ (x6 : Int), ∀ (M : gM), k11 x4 x6 M → gW p l e (gRm 1 22) s m args below meth c D cy A H0 Q 8 kd ln rh 0 0 M 11 [(0, .ref (gad a0)), (1, .int (gI a1)), (2, .int (gI a2)), (3, .int (gI a3)), (4, .long (gL x4)), (6, .int (gI x6))] []) → ∀ (x4 : BitVec 64) (x6 : Int) (M : gM), wX0_lookAlong_76 kd ln post a0 a1 a2 a3 k11 x4 x6 M → gW p l e (gRm 1 22) s m args below meth c D cy A H0 Q 8 kd ln rh 0 0 M 76 [(0, .ref (gad a0)), (1, .int (gI a1)), (2, .int (gI a2)), (3, .int (gI a3)), (4, .long (gL x4)), (6, .int (gI x6))] [] := by
    intro k11 hk11_ x4 x6 M h
    unfold wX0_lookAlong_76 at h
    refine q_iinc (lv' := [(6, .int (gI (x6 + (-1)))), (0, .ref (gad a0)), (1, .int (gI a1)), (2, .int (gI a2)), (3, .int (gI a3)), (4, .long (gL x4))]) C 5 rfl (by decide) rfl dX0_lookAlong_76 ?_
    refine q_goto (tgt := 11) C (by decide) dX0_lookAlong_79 ?_
    refine q_lv (lv' := [(0, .ref (gad a0)), (1, .int (gI a1)), (2, .int (gI a2)), (3, .int (gI a3)), (4, .long (gL x4)), (6, .int (gI (x6 + (-1))))]) [1, 2, 3, 4, 5, 0] rfl ?_
    exact hk11_ x4 (x6 + (-1)) M h
  have t11 : ∀ (n : Nat) (x4 : BitVec 64) (x6 : Int) (M : gM), wX0_lookAlong_11 kd ln post a0 a1 a2 a3 n x4 x6 M → gW p l e (gRm 1 22) s m args below meth c D cy A H0 Q 8 kd ln rh 0 0 M 11 [(0, .ref (gad a0)), (1, .int (gI a1)), (2, .int (gI a2)), (3, .int (gI a3)), (4, .long (gL x4)), (6, .int (gI x6))] [] := by
    intro n
    induction n with
    | zero => intro x4 x6 M h; exact absurd h (by simp [wX0_lookAlong_11])
    | succ n ih =>
      intro x4 x6 M h
      have hk11_ := ih
      rw [wX0_lookAlong_11] at h
      refine q_iload C 5 rfl dX0_lookAlong_11 ?_
      obtain ⟨r4, h⟩ := h
      refine q_if_le (tgt := 82) C r4 (by decide) dX0_lookAlong_13 (fun b5 => ?_) (fun b5 => ?_)
      · have h := h.1 b5
        refine q_lload C 4 rfl dX0_lookAlong_82 ?_
        exact hret x4 M _ _ dX0_lookAlong_84 h
      · have h := h.2 b5
        refine q_aload_n C 0 rfl rfl dX0_lookAlong_16 ?_
        refine q_aload_n C 0 rfl rfl dX0_lookAlong_17 ?_
        obtain ⟨r6, h⟩ := h
        refine q_get (v := .ref (rh a0 2)) C fX0_24 hk0 (if_neg (Int.not_lt.mpr r6)) dX0_lookAlong_18 (fun g7 => ?_)
        refine q_iload_n C 1 rfl rfl dX0_lookAlong_21 ?_
        obtain ⟨r8, h⟩ := h
        refine q_iald C hk0 rfl (fun _ q => q) r8 dX0_lookAlong_22 (fun g9 => ?_)
        have h := h g9
        refine q_iload C 5 rfl dX0_lookAlong_23 ?_
        refine q_iload_n C 2 rfl rfl dX0_lookAlong_25 ?_
        refine q_imul C dX0_lookAlong_26 ?_
        refine q_iadd C dX0_lookAlong_27 ?_
        refine q_aload_n C 0 rfl rfl dX0_lookAlong_28 ?_
        obtain ⟨r10, h⟩ := h
        refine q_get (v := .ref (rh a0 3)) C fX0_28 hk0 (if_neg (Int.not_lt.mpr r10)) dX0_lookAlong_29 (fun g11 => ?_)
        refine q_iload_n C 1 rfl rfl dX0_lookAlong_32 ?_
        obtain ⟨r12, h⟩ := h
        refine q_iald C hk0 rfl (fun _ q => q) r12 dX0_lookAlong_33 (fun g13 => ?_)
        have h := h g13
        refine q_iload C 5 rfl dX0_lookAlong_34 ?_
        refine q_iload_n C 3 rfl rfl dX0_lookAlong_36 ?_
        refine q_imul C dX0_lookAlong_37 ?_
        refine q_iadd C dX0_lookAlong_38 ?_
        refine q_callVI (As := [.int (gI ((M a0 2 a1) + (x6 * a2))), .int (gI ((M a0 3 a1) + (x6 * a3)))]) (st := []) C vX0_46 kX0_squareAt ⟨Nat.le_of_ble_eq_true rfl, Nat.le_of_ble_eq_true rfl⟩ ⟨Nat.le_of_ble_eq_true rfl, Nat.le_of_ble_eq_true rfl⟩ rfl hk0 ⟨_, _, rfl⟩ (by decide) rfl (Nat.le_of_ble_eq_true rfl) (mX0_squareAt l D cy kd ln rh _ a0 ((M a0 2 a1) + (x6 * a2)) ((M a0 3 a1) + (x6 * a3)) M hk0 h) dX0_lookAlong_39 (fun c15 M14 g16 h => ?_)
        have h := h g16
        refine q_istore (lv' := [(7, .int (gI c15)), (0, .ref (gad a0)), (1, .int (gI a1)), (2, .int (gI a2)), (3, .int (gI a3)), (4, .long (gL x4)), (6, .int (gI x6))]) C (by decide) rfl dX0_lookAlong_42 ?_
        refine q_iload C 0 rfl dX0_lookAlong_44 ?_
        refine q_iconst C dX0_lookAlong_46 ?_
        refine q_icmp_eq (tgt := 76) C g16 (show rng (-1) by decide) (by decide) dX0_lookAlong_47 (fun b17 => ?_) (fun b17 => ?_)
        · have h := h.1 b17
          refine q_lv (lv' := [(0, .ref (gad a0)), (1, .int (gI a1)), (2, .int (gI a2)), (3, .int (gI a3)), (4, .long (gL x4)), (6, .int (gI x6))]) [1, 2, 3, 4, 5, 6] rfl ?_
          exact t76 (wX0_lookAlong_11 kd ln post a0 a1 a2 a3 n) hk11_ x4 x6 M14 h
        · have h := h.2 b17
          refine q_aload_n C 1 rfl rfl dX0_lookAlong_50 ?_
          obtain ⟨r18, h⟩ := h
          refine q_get (v := .ref (rh a0 8)) C fX0_40 hk0 (if_neg (Int.not_lt.mpr r18)) dX0_lookAlong_51 (fun g19 => ?_)
          refine q_iload_n C 2 rfl rfl dX0_lookAlong_54 ?_
          refine q_aload_n C 1 rfl rfl dX0_lookAlong_55 ?_
          refine q_get (v := .int (gI (M14 a0 1 (-1)))) C fX0_21 hk0 rfl dX0_lookAlong_56 (fun g20 => ?_)
          have h := h g20
          refine q_imul C dX0_lookAlong_59 ?_
          refine q_iload C 0 rfl dX0_lookAlong_60 ?_
          refine q_iadd C dX0_lookAlong_62 ?_
          refine q_lload C 5 rfl dX0_lookAlong_63 ?_
          obtain ⟨r21, h⟩ := h
          refine q_last C hk0 rfl (rngL x4) r21 dX0_lookAlong_65 ?_
          refine q_lload C 5 rfl dX0_lookAlong_66 ?_
          refine q_iload C 0 rfl dX0_lookAlong_68 ?_
          refine q_callNL (As := [.int (gI c15)]) (st := [.long (gL x4)]) C vX0_62 kX6_bit ⟨Nat.le_of_ble_eq_true rfl, Nat.le_of_ble_eq_true rfl⟩ ⟨Nat.le_of_ble_eq_true rfl, Nat.le_of_ble_eq_true rfl⟩ rfl rfl (Nat.le_of_ble_eq_true rfl) (mX6_bit l D cy kd ln rh _ c15 (gu M14 a0 8 ((a1 * (M14 a0 1 (-1))) + c15) ((x4).toNat))  h) dX0_lookAlong_70 (fun c23 M22 h => ?_)
          refine q_lor C dX0_lookAlong_73 ?_
          refine q_topl (fun v25 ev25 => ?_)
          have h := h v25 ev25
          refine q_lstore (lv' := [(4, .long (gL v25)), (7, .int (gI c15)), (0, .ref (gad a0)), (1, .int (gI a1)), (2, .int (gI a2)), (3, .int (gI a3)), (6, .int (gI x6))]) C (by decide) rfl dX0_lookAlong_74 ?_
          refine q_lv (lv' := [(0, .ref (gad a0)), (1, .int (gI a1)), (2, .int (gI a2)), (3, .int (gI a3)), (4, .long (gL v25)), (6, .int (gI x6))]) [2, 3, 4, 5, 0, 6] rfl ?_
          exact t76 (wX0_lookAlong_11 kd ln post a0 a1 a2 a3 n) hk11_ v25 x6 M22 h
  unfold wX0_lookAlong at h
  refine q_lconst (b := 0) C rfl dX0_lookAlong_0 ?_
  refine q_topl (fun v1 ev1 => ?_)
  have h := h v1 ev1
  refine q_lstore (lv' := [(4, .long (gL v1)), (0, .ref (gad a0)), (1, .int (gI a1)), (2, .int (gI a2)), (3, .int (gI a3))]) C (by decide) rfl dX0_lookAlong_1 ?_
  refine q_aload_n C 1 rfl rfl dX0_lookAlong_3 ?_
  refine q_get (v := .int (gI (M a0 0 (-1)))) C fX0_17 hk0 rfl dX0_lookAlong_4 (fun g2 => ?_)
  have h := h g2
  refine q_iconst C dX0_lookAlong_7 ?_
  refine q_isub C dX0_lookAlong_8 ?_
  refine q_topi (fun v3 ev3 => ?_)
  have h := h v3 ev3
  refine q_istore (lv' := [(6, .int (gI v3)), (4, .long (gL v1)), (0, .ref (gad a0)), (1, .int (gI a1)), (2, .int (gI a2)), (3, .int (gI a3))]) C (by decide) rfl dX0_lookAlong_9 ?_
  refine q_lv (lv' := [(0, .ref (gad a0)), (1, .int (gI a1)), (2, .int (gI a2)), (3, .int (gI a3)), (4, .long (gL v1)), (6, .int (gI v3))]) [2, 3, 4, 5, 1, 0] rfl ?_
  obtain ⟨j11, h⟩ := h
  exact t11  j11 v1 v3 M h
set_option maxHeartbeats 4000000 in
set_option maxRecDepth 100000 in
theorem mX0_lookAround (l : Launch) (D : va_G) (cy : Nat → ClassId) (kd : gKd) (ln : gLn) (rh : gRh) (post : gM → Prop) (a0 : Int) (a1 : Int) (M : gM) (hk0 : kd a0 = 0) (h : wX0_lookAround kd ln post a0 a1 M) : gMV l D cy yX0_lookAround cX0_lookAround 7 2 49 [.ref (gad a0), .int (gI a1)] kd ln rh M post := by
  refine gMV_of (own := RX0) (by decide) rfl (Nat.le_of_ble_eq_true rfl) ?_
  intro p e s m args below meth c A H0 Q C hret
  have t133 : ∀ (k2 : Int → gM → Prop), (∀ (x2 : Int), ∀ (M : gM), k2 x2 M → gW p l e (gRm 2 49) s m args below meth c D cy A H0 Q 7 kd ln rh 0 0 M 2 [(0, .ref (gad a0)), (1, .int (gI a1)), (2, .int (gI x2))] []) → ∀ (k9 : Int → Int → gM → Prop), (∀ (x2 : Int), ∀ (x3 : Int), ∀ (M : gM), k9 x2 x3 M → gW p l e (gRm 2 49) s m args below meth c D cy A H0 Q 7 kd ln rh 0 0 M 9 [(0, .ref (gad a0)), (1, .int (gI a1)), (2, .int (gI x2)), (3, .int (gI x3))] []) → ∀ (x2 : Int) (x3 : Int) (M : gM), wX0_lookAround_133 kd ln post a0 a1 k2 k9 x2 x3 M → gW p l e (gRm 2 49) s m args below meth c D cy A H0 Q 7 kd ln rh 0 0 M 133 [(0, .ref (gad a0)), (1, .int (gI a1)), (2, .int (gI x2)), (3, .int (gI x3))] [] := by
    intro k2 hk2_ k9 hk9_ x2 x3 M h
    unfold wX0_lookAround_133 at h
    refine q_iinc (lv' := [(3, .int (gI (x3 + 1))), (0, .ref (gad a0)), (1, .int (gI a1)), (2, .int (gI x2))]) C 3 rfl (by decide) rfl dX0_lookAround_133 ?_
    refine q_goto (tgt := 9) C (by decide) dX0_lookAround_136 ?_
    refine q_lv (lv' := [(0, .ref (gad a0)), (1, .int (gI a1)), (2, .int (gI x2)), (3, .int (gI (x3 + 1)))]) [1, 2, 3, 0] rfl ?_
    exact hk9_ x2 (x3 + 1) M h
  have t108 : ∀ (k2 : Int → gM → Prop), (∀ (x2 : Int), ∀ (M : gM), k2 x2 M → gW p l e (gRm 2 49) s m args below meth c D cy A H0 Q 7 kd ln rh 0 0 M 2 [(0, .ref (gad a0)), (1, .int (gI a1)), (2, .int (gI x2))] []) → ∀ (k9 : Int → Int → gM → Prop), (∀ (x2 : Int), ∀ (x3 : Int), ∀ (M : gM), k9 x2 x3 M → gW p l e (gRm 2 49) s m args below meth c D cy A H0 Q 7 kd ln rh 0 0 M 9 [(0, .ref (gad a0)), (1, .int (gI a1)), (2, .int (gI x2)), (3, .int (gI x3))] []) → ∀ (x2 : Int) (x3 : Int) (x4 : Int) (M : gM), wX0_lookAround_108 kd ln post a0 a1 k2 k9 x2 x3 x4 M → gW p l e (gRm 2 49) s m args below meth c D cy A H0 Q 7 kd ln rh 0 0 M 108 [(0, .ref (gad a0)), (1, .int (gI a1)), (2, .int (gI x2)), (3, .int (gI x3)), (4, .int (gI x4))] [] := by
    intro k2 hk2_ k9 hk9_ x2 x3 x4 M h
    unfold wX0_lookAround_108 at h
    refine q_iload_n C 2 rfl rfl dX0_lookAround_108 ?_
    refine q_iconst C dX0_lookAround_109 ?_
    obtain ⟨r37, h⟩ := h
    refine q_icmp_ne (tgt := 133) C r37 (show rng 1 by decide) (by decide) dX0_lookAround_110 (fun b38 => ?_) (fun b38 => ?_)
    · have h := h.1 b38
      refine q_lv (lv' := [(0, .ref (gad a0)), (1, .int (gI a1)), (2, .int (gI x2)), (3, .int (gI x3))]) [0, 1, 2, 3] rfl ?_
      exact t133 k2 hk2_ k9 hk9_ x2 x3 M h
    · have h := h.2 b38
      refine q_iload_n C 3 rfl rfl dX0_lookAround_113 ?_
      obtain ⟨r39, h⟩ := h
      refine q_if_eq (tgt := 133) C r39 (by decide) dX0_lookAround_114 (fun b40 => ?_) (fun b40 => ?_)
      · have h := h.1 b40
        refine q_lv (lv' := [(0, .ref (gad a0)), (1, .int (gI a1)), (2, .int (gI x2)), (3, .int (gI x3))]) [0, 1, 2, 3] rfl ?_
        exact t133 k2 hk2_ k9 hk9_ x2 x3 M h
      · have h := h.2 b40
        refine q_aload_n C 0 rfl rfl dX0_lookAround_117 ?_
        obtain ⟨r41, h⟩ := h
        refine q_get (v := .ref (rh a0 7)) C fX0_37 hk0 (if_neg (Int.not_lt.mpr r41)) dX0_lookAround_118 (fun g42 => ?_)
        refine q_iconst C dX0_lookAround_121 ?_
        obtain ⟨r43, h⟩ := h
        refine q_aaldR C hk0 rfl r43 dX0_lookAround_122 ?_
        refine q_iload_n C 1 rfl rfl dX0_lookAround_123 ?_
        refine q_dup2 C rfl rfl dX0_lookAround_124 ?_
        obtain ⟨r44, h⟩ := h
        refine q_lald C hk0 rfl (fun _ q => q) r44 dX0_lookAround_125 (fun g45 => ?_)
        have h := h g45
        refine q_iload C 4 rfl dX0_lookAround_126 ?_
        refine q_callNL (As := [.int (gI x4)]) (st := [.long (gL (BitVec.ofInt 64 (M a0 102 a1))), .int (gI a1), .ref (rh a0 102)]) C vX0_62 kX6_bit ⟨Nat.le_of_ble_eq_true rfl, Nat.le_of_ble_eq_true rfl⟩ ⟨Nat.le_of_ble_eq_true rfl, Nat.le_of_ble_eq_true rfl⟩ rfl rfl (Nat.le_of_ble_eq_true rfl) (mX6_bit l D cy kd ln rh _ x4 M  h) dX0_lookAround_128 (fun c47 M46 h => ?_)
        refine q_lor C dX0_lookAround_131 ?_
        refine q_last C hk0 rfl (rngL ((BitVec.ofInt 64 (M a0 102 a1)) ||| c47)) r44 dX0_lookAround_132 ?_
        refine q_lv (lv' := [(0, .ref (gad a0)), (1, .int (gI a1)), (2, .int (gI x2)), (3, .int (gI x3))]) [0, 1, 2, 3] rfl ?_
        exact t133 k2 hk2_ k9 hk9_ x2 x3 (gu M46 a0 102 a1 (((BitVec.ofInt 64 (M a0 102 a1)) ||| c47).toNat)) h
  have t95 : ∀ (k2 : Int → gM → Prop), (∀ (x2 : Int), ∀ (M : gM), k2 x2 M → gW p l e (gRm 2 49) s m args below meth c D cy A H0 Q 7 kd ln rh 0 0 M 2 [(0, .ref (gad a0)), (1, .int (gI a1)), (2, .int (gI x2))] []) → ∀ (k9 : Int → Int → gM → Prop), (∀ (x2 : Int), ∀ (x3 : Int), ∀ (M : gM), k9 x2 x3 M → gW p l e (gRm 2 49) s m args below meth c D cy A H0 Q 7 kd ln rh 0 0 M 9 [(0, .ref (gad a0)), (1, .int (gI a1)), (2, .int (gI x2)), (3, .int (gI x3))] []) → ∀ (x2 : Int) (x3 : Int) (x4 : Int) (x5 : BitVec 64) (M : gM), wX0_lookAround_95 kd ln post a0 a1 k2 k9 x2 x3 x4 x5 M → gW p l e (gRm 2 49) s m args below meth c D cy A H0 Q 7 kd ln rh 0 0 M 95 [(0, .ref (gad a0)), (1, .int (gI a1)), (2, .int (gI x2)), (3, .int (gI x3)), (4, .int (gI x4)), (5, .long (gL x5))] [] := by
    intro k2 hk2_ k9 hk9_ x2 x3 x4 x5 M h
    unfold wX0_lookAround_95 at h
    refine q_aload_n C 0 rfl rfl dX0_lookAround_95 ?_
    obtain ⟨r49, h⟩ := h
    refine q_get (v := .ref (rh a0 7)) C fX0_37 hk0 (if_neg (Int.not_lt.mpr r49)) dX0_lookAround_96 (fun g50 => ?_)
    refine q_iconst C dX0_lookAround_99 ?_
    obtain ⟨r51, h⟩ := h
    refine q_aaldR C hk0 rfl r51 dX0_lookAround_100 ?_
    refine q_iload_n C 1 rfl rfl dX0_lookAround_101 ?_
    refine q_dup2 C rfl rfl dX0_lookAround_102 ?_
    obtain ⟨r52, h⟩ := h
    refine q_lald C hk0 rfl (fun _ q => q) r52 dX0_lookAround_103 (fun g53 => ?_)
    have h := h g53
    refine q_lload C 5 rfl dX0_lookAround_104 ?_
    refine q_lor C dX0_lookAround_106 ?_
    refine q_last C hk0 rfl (rngL ((BitVec.ofInt 64 (M a0 101 a1)) ||| x5)) r52 dX0_lookAround_107 ?_
    refine q_lv (lv' := [(0, .ref (gad a0)), (1, .int (gI a1)), (2, .int (gI x2)), (3, .int (gI x3)), (4, .int (gI x4))]) [0, 1, 2, 3, 4] rfl ?_
    exact t108 k2 hk2_ k9 hk9_ x2 x3 x4 (gu M a0 101 a1 (((BitVec.ofInt 64 (M a0 101 a1)) ||| x5).toNat)) h
  have t9 : ∀ (k2 : Int → gM → Prop), (∀ (x2 : Int), ∀ (M : gM), k2 x2 M → gW p l e (gRm 2 49) s m args below meth c D cy A H0 Q 7 kd ln rh 0 0 M 2 [(0, .ref (gad a0)), (1, .int (gI a1)), (2, .int (gI x2))] []) → ∀ (n : Nat) (x2 : Int) (x3 : Int) (M : gM), wX0_lookAround_9 kd ln post a0 a1 k2 n x2 x3 M → gW p l e (gRm 2 49) s m args below meth c D cy A H0 Q 7 kd ln rh 0 0 M 9 [(0, .ref (gad a0)), (1, .int (gI a1)), (2, .int (gI x2)), (3, .int (gI x3))] [] := by
    intro k2 hk2_
    intro n
    induction n with
    | zero => intro x2 x3 M h; exact absurd h (by simp [wX0_lookAround_9])
    | succ n ih =>
      intro x2 x3 M h
      have hk9_ := ih
      rw [wX0_lookAround_9] at h
      refine q_iload_n C 3 rfl rfl dX0_lookAround_9 ?_
      refine q_iconst C dX0_lookAround_10 ?_
      obtain ⟨r3, h⟩ := h
      refine q_icmp_gt (tgt := 139) C r3 (show rng 1 by decide) (by decide) dX0_lookAround_11 (fun b4 => ?_) (fun b4 => ?_)
      · have h := h.1 b4
        refine q_iinc (lv' := [(2, .int (gI (x2 + 1))), (0, .ref (gad a0)), (1, .int (gI a1)), (3, .int (gI x3))]) C 2 rfl (by decide) rfl dX0_lookAround_139 ?_
        refine q_goto (tgt := 2) C (by decide) dX0_lookAround_142 ?_
        refine q_lv (lv' := [(0, .ref (gad a0)), (1, .int (gI a1)), (2, .int (gI (x2 + 1)))]) [1, 2, 0] rfl ?_
        exact hk2_ (x2 + 1) M h
      · have h := h.2 b4
        refine q_aload_n C 0 rfl rfl dX0_lookAround_14 ?_
        refine q_aload_n C 0 rfl rfl dX0_lookAround_15 ?_
        obtain ⟨r5, h⟩ := h
        refine q_get (v := .ref (rh a0 2)) C fX0_24 hk0 (if_neg (Int.not_lt.mpr r5)) dX0_lookAround_16 (fun g6 => ?_)
        refine q_iload_n C 1 rfl rfl dX0_lookAround_19 ?_
        obtain ⟨r7, h⟩ := h
        refine q_iald C hk0 rfl (fun _ q => q) r7 dX0_lookAround_20 (fun g8 => ?_)
        have h := h g8
        refine q_iload_n C 2 rfl rfl dX0_lookAround_21 ?_
        refine q_iadd C dX0_lookAround_22 ?_
        refine q_aload_n C 0 rfl rfl dX0_lookAround_23 ?_
        obtain ⟨r9, h⟩ := h
        refine q_get (v := .ref (rh a0 3)) C fX0_28 hk0 (if_neg (Int.not_lt.mpr r9)) dX0_lookAround_24 (fun g10 => ?_)
        refine q_iload_n C 1 rfl rfl dX0_lookAround_27 ?_
        obtain ⟨r11, h⟩ := h
        refine q_iald C hk0 rfl (fun _ q => q) r11 dX0_lookAround_28 (fun g12 => ?_)
        have h := h g12
        refine q_iload_n C 3 rfl rfl dX0_lookAround_29 ?_
        refine q_iadd C dX0_lookAround_30 ?_
        refine q_callVI (As := [.int (gI ((M a0 2 a1) + x2)), .int (gI ((M a0 3 a1) + x3))]) (st := []) C vX0_46 kX0_squareAt ⟨Nat.le_of_ble_eq_true rfl, Nat.le_of_ble_eq_true rfl⟩ ⟨Nat.le_of_ble_eq_true rfl, Nat.le_of_ble_eq_true rfl⟩ rfl hk0 ⟨_, _, rfl⟩ (by decide) rfl (Nat.le_of_ble_eq_true rfl) (mX0_squareAt l D cy kd ln rh _ a0 ((M a0 2 a1) + x2) ((M a0 3 a1) + x3) M hk0 h) dX0_lookAround_31 (fun c14 M13 g15 h => ?_)
        have h := h g15
        refine q_istore (lv' := [(4, .int (gI c14)), (0, .ref (gad a0)), (1, .int (gI a1)), (2, .int (gI x2)), (3, .int (gI x3))]) C (by decide) rfl dX0_lookAround_34 ?_
        refine q_iload C 0 rfl dX0_lookAround_36 ?_
        refine q_iconst C dX0_lookAround_38 ?_
        refine q_icmp_eq (tgt := 133) C g15 (show rng (-1) by decide) (by decide) dX0_lookAround_39 (fun b16 => ?_) (fun b16 => ?_)
        · have h := h.1 b16
          refine q_lv (lv' := [(0, .ref (gad a0)), (1, .int (gI a1)), (2, .int (gI x2)), (3, .int (gI x3))]) [1, 2, 3, 4] rfl ?_
          exact t133 k2 hk2_ (wX0_lookAround_9 kd ln post a0 a1 k2 n) hk9_ x2 x3 M13 h
        · have h := h.2 b16
          refine q_iload C 0 rfl dX0_lookAround_42 ?_
          refine q_iload_n C 2 rfl rfl dX0_lookAround_44 ?_
          obtain ⟨r17, h⟩ := h
          refine q_icmp_ne (tgt := 51) C g15 r17 (by decide) dX0_lookAround_45 (fun b18 => ?_) (fun b18 => ?_)
          · have h := h.1 b18
            refine q_aload_n C 1 rfl rfl dX0_lookAround_51 ?_
            obtain ⟨r19, h⟩ := h
            refine q_get (v := .ref (rh a0 6)) C fX0_31 hk0 (if_neg (Int.not_lt.mpr r19)) dX0_lookAround_52 (fun g20 => ?_)
            refine q_iload_n C 2 rfl rfl dX0_lookAround_55 ?_
            refine q_dup2 C rfl rfl dX0_lookAround_56 ?_
            obtain ⟨r21, h⟩ := h
            refine q_lald C hk0 rfl (fun _ q => q) r21 dX0_lookAround_57 (fun g22 => ?_)
            have h := h g22
            refine q_iload C 0 rfl dX0_lookAround_58 ?_
            refine q_callNL (As := [.int (gI c14)]) (st := [.long (gL (BitVec.ofInt 64 (M13 a0 6 a1))), .int (gI a1), .ref (rh a0 6)]) C vX0_62 kX6_bit ⟨Nat.le_of_ble_eq_true rfl, Nat.le_of_ble_eq_true rfl⟩ ⟨Nat.le_of_ble_eq_true rfl, Nat.le_of_ble_eq_true rfl⟩ rfl rfl (Nat.le_of_ble_eq_true rfl) (mX6_bit l D cy kd ln rh _ c14 M13  h) dX0_lookAround_60 (fun c24 M23 h => ?_)
            refine q_lor C dX0_lookAround_63 ?_
            refine q_last C hk0 rfl (rngL ((BitVec.ofInt 64 (M13 a0 6 a1)) ||| c24)) r21 dX0_lookAround_64 ?_
            refine q_aload_n C 1 rfl rfl dX0_lookAround_65 ?_
            refine q_iload_n C 2 rfl rfl dX0_lookAround_66 ?_
            refine q_iload_n C 3 rfl rfl dX0_lookAround_67 ?_
            refine q_iload_n C 4 rfl rfl dX0_lookAround_68 ?_
            refine q_callVL (As := [.int (gI a1), .int (gI x2), .int (gI x3)]) (st := []) C vX0_66 kX0_lookAlong ⟨Nat.le_of_ble_eq_true rfl, Nat.le_of_ble_eq_true rfl⟩ ⟨Nat.le_of_ble_eq_true rfl, Nat.le_of_ble_eq_true rfl⟩ rfl hk0 ⟨_, _, rfl⟩ (by decide) rfl (Nat.le_of_ble_eq_true rfl) (mX0_lookAlong l D cy kd ln rh _ a0 a1 x2 x3 (gu M23 a0 6 a1 (((BitVec.ofInt 64 (M13 a0 6 a1)) ||| c24).toNat)) hk0 h) dX0_lookAround_69 (fun c27 M26 h => ?_)
            refine q_lstore (lv' := [(5, .long (gL c27)), (4, .int (gI c14)), (0, .ref (gad a0)), (1, .int (gI a1)), (2, .int (gI x2)), (3, .int (gI x3))]) C (by decide) rfl dX0_lookAround_72 ?_
            refine q_aload_n C 2 rfl rfl dX0_lookAround_74 ?_
            obtain ⟨r29, h⟩ := h
            refine q_get (v := .ref (rh a0 7)) C fX0_37 hk0 (if_neg (Int.not_lt.mpr r29)) dX0_lookAround_75 (fun g30 => ?_)
            refine q_iconst C dX0_lookAround_78 ?_
            obtain ⟨r31, h⟩ := h
            refine q_aaldR C hk0 rfl r31 dX0_lookAround_79 ?_
            refine q_iload_n C 3 rfl rfl dX0_lookAround_80 ?_
            refine q_dup2 C rfl rfl dX0_lookAround_81 ?_
            obtain ⟨r32, h⟩ := h
            refine q_lald C hk0 rfl (fun _ q => q) r32 dX0_lookAround_82 (fun g33 => ?_)
            have h := h g33
            refine q_lload C 0 rfl dX0_lookAround_83 ?_
            refine q_lor C dX0_lookAround_85 ?_
            refine q_last C hk0 rfl (rngL ((BitVec.ofInt 64 (M26 a0 100 a1)) ||| c27)) r32 dX0_lookAround_86 ?_
            refine q_iload_n C 4 rfl rfl dX0_lookAround_87 ?_
            obtain ⟨r34, h⟩ := h
            refine q_if_eq (tgt := 95) C r34 (by decide) dX0_lookAround_88 (fun b35 => ?_) (fun b35 => ?_)
            · have h := h.1 b35
              refine q_lv (lv' := [(0, .ref (gad a0)), (1, .int (gI a1)), (2, .int (gI x2)), (3, .int (gI x3)), (4, .int (gI c14)), (5, .long (gL c27))]) [2, 3, 4, 5, 1, 0] rfl ?_
              exact t95 k2 hk2_ (wX0_lookAround_9 kd ln post a0 a1 k2 n) hk9_ x2 x3 c14 c27 (gu M26 a0 100 a1 (((BitVec.ofInt 64 (M26 a0 100 a1)) ||| c27).toNat)) h
            · have h := h.2 b35
              refine q_iload_n C 5 rfl rfl dX0_lookAround_91 ?_
              refine q_if_ne (tgt := 108) C r3 (by decide) dX0_lookAround_92 (fun b36 => ?_) (fun b36 => ?_)
              · have h := h.1 b36
                refine q_lv (lv' := [(0, .ref (gad a0)), (1, .int (gI a1)), (2, .int (gI x2)), (3, .int (gI x3)), (4, .int (gI c14))]) [2, 3, 4, 5, 1] rfl ?_
                exact t108 k2 hk2_ (wX0_lookAround_9 kd ln post a0 a1 k2 n) hk9_ x2 x3 c14 (gu M26 a0 100 a1 (((BitVec.ofInt 64 (M26 a0 100 a1)) ||| c27).toNat)) h
              · have h := h.2 b36
                refine q_lv (lv' := [(0, .ref (gad a0)), (1, .int (gI a1)), (2, .int (gI x2)), (3, .int (gI x3)), (4, .int (gI c14)), (5, .long (gL c27))]) [2, 3, 4, 5, 1, 0] rfl ?_
                exact t95 k2 hk2_ (wX0_lookAround_9 kd ln post a0 a1 k2 n) hk9_ x2 x3 c14 c27 (gu M26 a0 100 a1 (((BitVec.ofInt 64 (M26 a0 100 a1)) ||| c27).toNat)) h
          · have h := h.2 b18
            refine q_goto (tgt := 133) C (by decide) dX0_lookAround_48 ?_
            refine q_lv (lv' := [(0, .ref (gad a0)), (1, .int (gI a1)), (2, .int (gI x2)), (3, .int (gI x3))]) [1, 2, 3, 4] rfl ?_
            exact t133 k2 hk2_ (wX0_lookAround_9 kd ln post a0 a1 k2 n) hk9_ x2 x3 M13 h
  have t2 : ∀ (n : Nat) (x2 : Int) (M : gM), wX0_lookAround_2 kd ln post a0 a1 n x2 M → gW p l e (gRm 2 49) s m args below meth c D cy A H0 Q 7 kd ln rh 0 0 M 2 [(0, .ref (gad a0)), (1, .int (gI a1)), (2, .int (gI x2))] [] := by
    intro n
    induction n with
    | zero => intro x2 M h; exact absurd h (by simp [wX0_lookAround_2])
    | succ n ih =>
      intro x2 M h
      have hk2_ := ih
      rw [wX0_lookAround_2] at h
      refine q_iload_n C 2 rfl rfl dX0_lookAround_2 ?_
      refine q_iconst C dX0_lookAround_3 ?_
      obtain ⟨r1, h⟩ := h
      refine q_icmp_gt (tgt := 145) C r1 (show rng 1 by decide) (by decide) dX0_lookAround_4 (fun b2 => ?_) (fun b2 => ?_)
      · have h := h.1 b2
        exact hret M _ _ dX0_lookAround_145 h
      · have h := h.2 b2
        refine q_iconst C dX0_lookAround_7 ?_
        refine q_istore_n (lv' := [(3, .int (gI (-1))), (0, .ref (gad a0)), (1, .int (gI a1)), (2, .int (gI x2))]) C rfl (by decide) rfl dX0_lookAround_8 ?_
        refine q_lv (lv' := [(0, .ref (gad a0)), (1, .int (gI a1)), (2, .int (gI x2)), (3, .int (gI (-1)))]) [1, 2, 3, 0] rfl ?_
        obtain ⟨j9, h⟩ := h
        exact t9 (wX0_lookAround_2 kd ln post a0 a1 n) hk2_ j9 x2 (-1) M h
  unfold wX0_lookAround at h
  refine q_iconst C dX0_lookAround_0 ?_
  refine q_istore_n (lv' := [(2, .int (gI (-1))), (0, .ref (gad a0)), (1, .int (gI a1))]) C rfl (by decide) rfl dX0_lookAround_1 ?_
  refine q_lv (lv' := [(0, .ref (gad a0)), (1, .int (gI a1)), (2, .int (gI (-1)))]) [1, 2, 0] rfl ?_
  obtain ⟨j2, h⟩ := h
  exact t2  j2 (-1) M h
set_option maxHeartbeats 4000000 in
set_option maxRecDepth 100000 in
theorem mX0_imageOf (l : Launch) (D : va_G) (cy : Nat → ClassId) (kd : gKd) (ln : gLn) (rh : gRh) (post : Int → gM → Prop) (a0 : Int) (a1 : Int) (a2 : Int) (a3 : Int) (M : gM) (hk0 : kd a0 = 0) (h : wX0_imageOf kd ln post a0 a1 a2 a3 M) : gMI l D cy yX0_imageOf cX0_imageOf 7 .int 1 22 [.ref (gad a0), .int (gI a1), .int (gI a2), .int (gI a3)] kd ln rh M post := by
  refine gMI_of (own := RX0) (by decide) rfl (Nat.le_of_ble_eq_true rfl) ?_
  intro p e s m args below meth c A H0 Q C hret
  have t58 : ∀ (x6 : Int) (y0 : Int) (M : gM), wX0_imageOf_58 kd ln post a0 a1 a2 a3 x6 y0 M → gW p l e (gRm 1 22) s m args below meth c D cy A H0 Q 7 kd ln rh 0 0 M 58 [(0, .ref (gad a0)), (1, .int (gI a1)), (6, .int (gI x6))] [.int (gI y0), .ref (gad a0)] := by
    intro  x6 y0 M h
    unfold wX0_imageOf_58 at h
    refine q_iload_n C 1 rfl rfl dX0_imageOf_58 ?_
    refine q_iconst C dX0_imageOf_59 ?_
    refine q_iand C dX0_imageOf_60 ?_
    obtain ⟨r10, h⟩ := h
    refine q_if_eq (tgt := 76) C r10 (by decide) dX0_imageOf_61 (fun b11 => ?_) (fun b11 => ?_)
    · have h := h.1 b11
      refine q_iload C 2 rfl dX0_imageOf_76 ?_
      refine q_callVI (As := [.int (gI y0), .int (gI x6)]) (st := []) C vX0_46 kX0_squareAt ⟨Nat.le_of_ble_eq_true rfl, Nat.le_of_ble_eq_true rfl⟩ ⟨Nat.le_of_ble_eq_true rfl, Nat.le_of_ble_eq_true rfl⟩ rfl hk0 ⟨_, _, rfl⟩ (by decide) rfl (Nat.le_of_ble_eq_true rfl) (mX0_squareAt l D cy kd ln rh _ a0 y0 x6 M hk0 h) dX0_imageOf_78 (fun c13 M12 g14 h => ?_)
      have h := h g14
      exact hret c13 M12 _ _ dX0_imageOf_81 g14 h
    · have h := h.2 b11
      refine q_aload_n C 0 rfl rfl dX0_imageOf_64 ?_
      refine q_get (v := .int (gI (M a0 0 (-1)))) C fX0_17 hk0 rfl dX0_imageOf_65 (fun g15 => ?_)
      have h := h g15
      refine q_iconst C dX0_imageOf_68 ?_
      refine q_isub C dX0_imageOf_69 ?_
      refine q_iload C 2 rfl dX0_imageOf_70 ?_
      refine q_isub C dX0_imageOf_72 ?_
      refine q_goto (tgt := 78) C (by decide) dX0_imageOf_73 ?_
      refine q_callVI (As := [.int (gI y0), .int (gI (((M a0 0 (-1)) - 1) - x6))]) (st := []) C vX0_46 kX0_squareAt ⟨Nat.le_of_ble_eq_true rfl, Nat.le_of_ble_eq_true rfl⟩ ⟨Nat.le_of_ble_eq_true rfl, Nat.le_of_ble_eq_true rfl⟩ rfl hk0 ⟨_, _, rfl⟩ (by decide) rfl (Nat.le_of_ble_eq_true rfl) (mX0_squareAt l D cy kd ln rh _ a0 y0 (((M a0 0 (-1)) - 1) - x6) M hk0 h) dX0_imageOf_78 (fun c17 M16 g18 h => ?_)
      have h := h g18
      exact hret c17 M16 _ _ dX0_imageOf_81 g18 h
  have t35 : ∀ (x5 : Int) (y0 : Int) (M : gM), wX0_imageOf_35 kd ln post a0 a1 a2 a3 x5 y0 M → gW p l e (gRm 1 22) s m args below meth c D cy A H0 Q 7 kd ln rh 0 0 M 35 [(0, .ref (gad a0)), (1, .int (gI a1)), (5, .int (gI x5))] [.int (gI y0)] := by
    intro  x5 y0 M h
    unfold wX0_imageOf_35 at h
    refine q_istore (lv' := [(6, .int (gI y0)), (0, .ref (gad a0)), (1, .int (gI a1)), (5, .int (gI x5))]) C (by decide) rfl dX0_imageOf_35 ?_
    refine q_aload_n C 1 rfl rfl dX0_imageOf_37 ?_
    refine q_iload_n C 2 rfl rfl dX0_imageOf_38 ?_
    refine q_iconst C dX0_imageOf_39 ?_
    refine q_iand C dX0_imageOf_40 ?_
    obtain ⟨r7, h⟩ := h
    refine q_if_eq (tgt := 56) C r7 (by decide) dX0_imageOf_41 (fun b8 => ?_) (fun b8 => ?_)
    · have h := h.1 b8
      refine q_iload C 3 rfl dX0_imageOf_56 ?_
      refine q_lv (lv' := [(0, .ref (gad a0)), (1, .int (gI a1)), (6, .int (gI y0))]) [1, 2, 0] rfl ?_
      exact t58  y0 x5 M h
    · have h := h.2 b8
      refine q_aload_n C 1 rfl rfl dX0_imageOf_44 ?_
      refine q_get (v := .int (gI (M a0 0 (-1)))) C fX0_17 hk0 rfl dX0_imageOf_45 (fun g9 => ?_)
      have h := h g9
      refine q_iconst C dX0_imageOf_48 ?_
      refine q_isub C dX0_imageOf_49 ?_
      refine q_iload C 3 rfl dX0_imageOf_50 ?_
      refine q_isub C dX0_imageOf_52 ?_
      refine q_goto (tgt := 58) C (by decide) dX0_imageOf_53 ?_
      refine q_lv (lv' := [(0, .ref (gad a0)), (1, .int (gI a1)), (6, .int (gI y0))]) [1, 2, 0] rfl ?_
      exact t58  y0 (((M a0 0 (-1)) - 1) - x5) M h
  have t23 : ∀ (x4 : Int) (y0 : Int) (M : gM), wX0_imageOf_23 kd ln post a0 a1 a2 a3 x4 y0 M → gW p l e (gRm 1 22) s m args below meth c D cy A H0 Q 7 kd ln rh 0 0 M 23 [(0, .ref (gad a0)), (1, .int (gI a1)), (2, .int (gI a2)), (3, .int (gI a3)), (4, .int (gI x4))] [.int (gI y0)] := by
    intro  x4 y0 M h
    unfold wX0_imageOf_23 at h
    refine q_istore (lv' := [(5, .int (gI y0)), (0, .ref (gad a0)), (1, .int (gI a1)), (2, .int (gI a2)), (3, .int (gI a3)), (4, .int (gI x4))]) C (by decide) rfl dX0_imageOf_23 ?_
    refine q_iload C 5 rfl dX0_imageOf_25 ?_
    obtain ⟨r5, h⟩ := h
    refine q_if_eq (tgt := 34) C r5 (by decide) dX0_imageOf_27 (fun b6 => ?_) (fun b6 => ?_)
    · have h := h.1 b6
      refine q_iload_n C 4 rfl rfl dX0_imageOf_34 ?_
      refine q_lv (lv' := [(0, .ref (gad a0)), (1, .int (gI a1)), (5, .int (gI y0))]) [1, 2, 0] rfl ?_
      exact t35  y0 a3 M h
    · have h := h.2 b6
      refine q_iload_n C 3 rfl rfl dX0_imageOf_30 ?_
      refine q_goto (tgt := 35) C (by decide) dX0_imageOf_31 ?_
      refine q_lv (lv' := [(0, .ref (gad a0)), (1, .int (gI a1)), (5, .int (gI y0))]) [1, 2, 0] rfl ?_
      exact t35  y0 a2 M h
  have t11 : ∀ (y0 : Int) (M : gM), wX0_imageOf_11 kd ln post a0 a1 a2 a3 y0 M → gW p l e (gRm 1 22) s m args below meth c D cy A H0 Q 7 kd ln rh 0 0 M 11 [(0, .ref (gad a0)), (1, .int (gI a1)), (2, .int (gI a2)), (3, .int (gI a3))] [.int (gI y0)] := by
    intro  y0 M h
    unfold wX0_imageOf_11 at h
    refine q_istore (lv' := [(4, .int (gI y0)), (0, .ref (gad a0)), (1, .int (gI a1)), (2, .int (gI a2)), (3, .int (gI a3))]) C (by decide) rfl dX0_imageOf_11 ?_
    refine q_iload C 0 rfl dX0_imageOf_13 ?_
    obtain ⟨r3, h⟩ := h
    refine q_if_eq (tgt := 22) C r3 (by decide) dX0_imageOf_15 (fun b4 => ?_) (fun b4 => ?_)
    · have h := h.1 b4
      refine q_iload_n C 3 rfl rfl dX0_imageOf_22 ?_
      refine q_lv (lv' := [(0, .ref (gad a0)), (1, .int (gI a1)), (2, .int (gI a2)), (3, .int (gI a3)), (4, .int (gI y0))]) [1, 2, 3, 4, 0] rfl ?_
      exact t23  y0 a2 M h
    · have h := h.2 b4
      refine q_iload_n C 4 rfl rfl dX0_imageOf_18 ?_
      refine q_goto (tgt := 23) C (by decide) dX0_imageOf_19 ?_
      refine q_lv (lv' := [(0, .ref (gad a0)), (1, .int (gI a1)), (2, .int (gI a2)), (3, .int (gI a3)), (4, .int (gI y0))]) [1, 2, 3, 4, 0] rfl ?_
      exact t23  y0 a3 M h
  unfold wX0_imageOf at h
  refine q_iload_n C 1 rfl rfl dX0_imageOf_0 ?_
  refine q_iconst C dX0_imageOf_1 ?_
  refine q_iand C dX0_imageOf_2 ?_
  obtain ⟨r1, h⟩ := h
  refine q_if_eq (tgt := 10) C r1 (by decide) dX0_imageOf_3 (fun b2 => ?_) (fun b2 => ?_)
  · have h := h.1 b2
    refine q_iconst C dX0_imageOf_10 ?_
    exact t11  0 M h
  · have h := h.2 b2
    refine q_iconst C dX0_imageOf_6 ?_
    refine q_goto (tgt := 11) C (by decide) dX0_imageOf_7 ?_
    exact t11  1 M h
set_option maxHeartbeats 4000000 in
set_option maxRecDepth 100000 in
theorem mX0_enter (l : Launch) (D : va_G) (cy : Nat → ClassId) (kd : gKd) (ln : gLn) (rh : gRh) (post : gM → Prop) (a0 : Int) (a1 : Int) (a2 : Int) (a3 : Int) (M : gM) (hk0 : kd a0 = 0) (h : wX0_enter kd ln post a0 a1 a2 a3 M) : gMV l D cy yX0_enter cX0_enter 5 3 75 [.ref (gad a0), .int (gI a1), .int (gI a2), .int (gI a3)] kd ln rh M post := by
  refine gMV_of (own := RX0) (by decide) rfl (Nat.le_of_ble_eq_true rfl) ?_
  intro p e s m args below meth c A H0 Q C hret
  have t22 : ∀ (n : Nat) (x4 : Int) (M : gM), wX0_enter_22 kd ln post a0 a1 a2 a3 n x4 M → gW p l e (gRm 3 75) s m args below meth c D cy A H0 Q 5 kd ln rh 0 0 M 22 [(0, .ref (gad a0)), (1, .int (gI a1)), (2, .int (gI a2)), (3, .int (gI a3)), (4, .int (gI x4))] [] := by
    intro n
    induction n with
    | zero => intro x4 M h; exact absurd h (by simp [wX0_enter_22])
    | succ n ih =>
      intro x4 M h
      have hk22_ := ih
      rw [wX0_enter_22] at h
      refine q_iload C 4 rfl dX0_enter_22 ?_
      refine q_bipush C (by decide) dX0_enter_24 ?_
      obtain ⟨r12, h⟩ := h
      refine q_icmp_ge (tgt := 57) C r12 (show rng 8 by decide) (by decide) dX0_enter_26 (fun b13 => ?_) (fun b13 => ?_)
      · have h := h.1 b13
        exact hret M _ _ dX0_enter_57 h
      · have h := h.2 b13
        refine q_aload_n C 0 rfl rfl dX0_enter_29 ?_
        obtain ⟨r14, h⟩ := h
        refine q_get (v := .ref (rh a0 4)) C fX0_43 hk0 (if_neg (Int.not_lt.mpr r14)) dX0_enter_30 (fun g15 => ?_)
        refine q_iload C 4 rfl dX0_enter_33 ?_
        refine q_aload_n C 0 rfl rfl dX0_enter_35 ?_
        refine q_get (v := .int (gI (M a0 1 (-1)))) C fX0_21 hk0 rfl dX0_enter_36 (fun g16 => ?_)
        have h := h g16
        refine q_imul C dX0_enter_39 ?_
        refine q_iload_n C 1 rfl rfl dX0_enter_40 ?_
        refine q_iadd C dX0_enter_41 ?_
        refine q_aload_n C 0 rfl rfl dX0_enter_42 ?_
        refine q_iload C 4 rfl dX0_enter_43 ?_
        refine q_iload_n C 2 rfl rfl dX0_enter_45 ?_
        refine q_iload_n C 3 rfl rfl dX0_enter_46 ?_
        refine q_callVI (As := [.int (gI x4), .int (gI a2), .int (gI a3)]) (st := [.int (gI ((x4 * (M a0 1 (-1))) + a1)), .ref (rh a0 4)]) C vX0_58 kX0_imageOf ⟨Nat.le_of_ble_eq_true rfl, Nat.le_of_ble_eq_true rfl⟩ ⟨Nat.le_of_ble_eq_true rfl, Nat.le_of_ble_eq_true rfl⟩ rfl hk0 ⟨_, _, rfl⟩ (by decide) rfl (Nat.le_of_ble_eq_true rfl) (mX0_imageOf l D cy kd ln rh _ a0 x4 a2 a3 M hk0 h) dX0_enter_47 (fun c18 M17 g19 h => ?_)
        have h := h g19
        obtain ⟨r20, h⟩ := h
        refine q_iast C hk0 rfl g19 r20 dX0_enter_50 ?_
        refine q_iinc (lv' := [(4, .int (gI (x4 + 1))), (0, .ref (gad a0)), (1, .int (gI a1)), (2, .int (gI a2)), (3, .int (gI a3))]) C 4 rfl (by decide) rfl dX0_enter_51 ?_
        refine q_goto (tgt := 22) C (by decide) dX0_enter_54 ?_
        refine q_lv (lv' := [(0, .ref (gad a0)), (1, .int (gI a1)), (2, .int (gI a2)), (3, .int (gI a3)), (4, .int (gI (x4 + 1)))]) [1, 2, 3, 4, 0] rfl ?_
        exact hk22_ (x4 + 1) (gu M17 a0 4 ((x4 * (M a0 1 (-1))) + a1) c18) h
  unfold wX0_enter at h
  refine q_aload_n C 0 rfl rfl dX0_enter_0 ?_
  obtain ⟨r1, h⟩ := h
  refine q_get (v := .ref (rh a0 2)) C fX0_24 hk0 (if_neg (Int.not_lt.mpr r1)) dX0_enter_1 (fun g2 => ?_)
  refine q_iload_n C 1 rfl rfl dX0_enter_4 ?_
  refine q_iload_n C 2 rfl rfl dX0_enter_5 ?_
  obtain ⟨r3, h⟩ := h
  obtain ⟨r4, h⟩ := h
  refine q_iast C hk0 rfl r4 r3 dX0_enter_6 ?_
  refine q_aload_n C 0 rfl rfl dX0_enter_7 ?_
  obtain ⟨r5, h⟩ := h
  refine q_get (v := .ref (rh a0 3)) C fX0_28 hk0 (if_neg (Int.not_lt.mpr r5)) dX0_enter_8 (fun g6 => ?_)
  refine q_iload_n C 1 rfl rfl dX0_enter_11 ?_
  refine q_iload_n C 3 rfl rfl dX0_enter_12 ?_
  obtain ⟨r7, h⟩ := h
  obtain ⟨r8, h⟩ := h
  refine q_iast C hk0 rfl r8 r7 dX0_enter_13 ?_
  refine q_aload_n C 0 rfl rfl dX0_enter_14 ?_
  refine q_iload_n C 1 rfl rfl dX0_enter_15 ?_
  refine q_callVV (As := [.int (gI a1)]) (st := []) C vX0_54 kX0_lookAround ⟨Nat.le_of_ble_eq_true rfl, Nat.le_of_ble_eq_true rfl⟩ ⟨Nat.le_of_ble_eq_true rfl, Nat.le_of_ble_eq_true rfl⟩ rfl hk0 ⟨_, _, rfl⟩ (by decide) rfl (Nat.le_of_ble_eq_true rfl) (mX0_lookAround l D cy kd ln rh _ a0 a1 (gu (gu M a0 2 a1 a2) a0 3 a1 a3) hk0 h) dX0_enter_16 (fun M9 h => ?_)
  refine q_iconst C dX0_enter_19 ?_
  refine q_istore (lv' := [(4, .int (gI 0)), (0, .ref (gad a0)), (1, .int (gI a1)), (2, .int (gI a2)), (3, .int (gI a3))]) C (by decide) rfl dX0_enter_20 ?_
  refine q_lv (lv' := [(0, .ref (gad a0)), (1, .int (gI a1)), (2, .int (gI a2)), (3, .int (gI a3)), (4, .int (gI 0))]) [1, 2, 3, 4, 0] rfl ?_
  obtain ⟨j22, h⟩ := h
  exact t22  j22 0 M9 h
