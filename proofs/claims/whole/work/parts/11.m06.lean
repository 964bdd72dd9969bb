set_option maxHeartbeats 4000000 in
set_option maxRecDepth 100000 in
theorem mX7_backBlack (l : Launch) (D : va_G) (cy : Nat → ClassId) (kd : gKd) (ln : gLn) (rh : gRh) (post : gM → Prop) (a0 : Int) (a1 : Int) (a2 : Int) (a3 : Int) (a4 : Int) (a5 : Int) (M : gM) (hk0 : kd a0 = 7) (h : wX7_backBlack kd ln post a0 a1 a2 a3 a4 a5 M) : gMV l D cy yX7_backBlack cX7_backBlack 9 6 154 [.ref (gad a0), .int (gI a1), .int (gI a2), .int (gI a3), .int (gI a4), .int (gI a5)] kd ln rh M post := by
  refine gMV_of (own := RX7) (by decide) rfl (Nat.le_of_ble_eq_true rfl) ?_
  intro p e s m args below meth c A H0 Q C hret
  have t89 : ∀ (k3 : Int → gM → Prop), (∀ (x6 : Int), ∀ (M : gM), k3 x6 M → gW p l e (gRm 6 154) s m args below meth c D cy A H0 Q 9 kd ln rh 0 0 M 3 [(0, .ref (gad a0)), (1, .int (gI a1)), (2, .int (gI a2)), (3, .int (gI a3)), (4, .int (gI a4)), (5, .int (gI a5)), (6, .int (gI x6))] []) → ∀ (k12 : Int → Int → gM → Prop), (∀ (x6 : Int), ∀ (x7 : Int), ∀ (M : gM), k12 x6 x7 M → gW p l e (gRm 6 154) s m args below meth c D cy A H0 Q 9 kd ln rh 0 0 M 12 [(0, .ref (gad a0)), (1, .int (gI a1)), (2, .int (gI a2)), (3, .int (gI a3)), (4, .int (gI a4)), (5, .int (gI a5)), (6, .int (gI x6)), (7, .int (gI x7))] []) → ∀ (x6 : Int) (x7 : Int) (M : gM), wX7_backBlack_89 kd ln post a0 a1 a2 a3 a4 a5 k3 k12 x6 x7 M → gW p l e (gRm 6 154) s m args below meth c D cy A H0 Q 9 kd ln rh 0 0 M 89 [(0, .ref (gad a0)), (1, .int (gI a1)), (2, .int (gI a2)), (3, .int (gI a3)), (4, .int (gI a4)), (5, .int (gI a5)), (6, .int (gI x6)), (7, .int (gI x7))] [] := by
    intro k3 hk3_ k12 hk12_ x6 x7 M h
    unfold wX7_backBlack_89 at h
    refine q_iinc (lv' := [(7, .int (gI (x7 + 1))), (0, .ref (gad a0)), (1, .int (gI a1)), (2, .int (gI a2)), (3, .int (gI a3)), (4, .int (gI a4)), (5, .int (gI a5)), (6, .int (gI x6))]) C 7 rfl (by decide) rfl dX7_backBlack_89 ?_
    refine q_goto (tgt := 12) C (by decide) dX7_backBlack_92 ?_
    refine q_lv (lv' := [(0, .ref (gad a0)), (1, .int (gI a1)), (2, .int (gI a2)), (3, .int (gI a3)), (4, .int (gI a4)), (5, .int (gI a5)), (6, .int (gI x6)), (7, .int (gI (x7 + 1)))]) [1, 2, 3, 4, 5, 6, 7, 0] rfl ?_
    exact hk12_ x6 (x7 + 1) M h
  have t41 : ∀ (k3 : Int → gM → Prop), (∀ (x6 : Int), ∀ (M : gM), k3 x6 M → gW p l e (gRm 6 154) s m args below meth c D cy A H0 Q 9 kd ln rh 0 0 M 3 [(0, .ref (gad a0)), (1, .int (gI a1)), (2, .int (gI a2)), (3, .int (gI a3)), (4, .int (gI a4)), (5, .int (gI a5)), (6, .int (gI x6))] []) → ∀ (k12 : Int → Int → gM → Prop), (∀ (x6 : Int), ∀ (x7 : Int), ∀ (M : gM), k12 x6 x7 M → gW p l e (gRm 6 154) s m args below meth c D cy A H0 Q 9 kd ln rh 0 0 M 12 [(0, .ref (gad a0)), (1, .int (gI a1)), (2, .int (gI a2)), (3, .int (gI a3)), (4, .int (gI a4)), (5, .int (gI a5)), (6, .int (gI x6)), (7, .int (gI x7))] []) → ∀ (x6 : Int) (x7 : Int) (y0 : Int) (M : gM), wX7_backBlack_41 kd ln post a0 a1 a2 a3 a4 a5 k3 k12 x6 x7 y0 M → gW p l e (gRm 6 154) s m args below meth c D cy A H0 Q 9 kd ln rh 0 0 M 41 [(0, .ref (gad a0)), (1, .int (gI a1)), (2, .int (gI a2)), (3, .int (gI a3)), (4, .int (gI a4)), (5, .int (gI a5)), (6, .int (gI x6)), (7, .int (gI x7))] [.int (gI y0)] := by
    intro k3 hk3_ k12 hk12_ x6 x7 y0 M h
    unfold wX7_backBlack_41 at h
    refine q_istore (lv' := [(8, .int (gI y0)), (0, .ref (gad a0)), (1, .int (gI a1)), (2, .int (gI a2)), (3, .int (gI a3)), (4, .int (gI a4)), (5, .int (gI a5)), (6, .int (gI x6)), (7, .int (gI x7))]) C (by decide) rfl dX7_backBlack_41 ?_
    refine q_iload C 0 rfl dX7_backBlack_43 ?_
    refine q_iconst C dX7_backBlack_45 ?_
    obtain ⟨r8, h⟩ := h
    refine q_icmp_eq (tgt := 89) C r8 (show rng (-1) by decide) (by decide) dX7_backBlack_46 (fun b9 => ?_) (fun b9 => ?_)
    · have h := h.1 b9
      refine q_lv (lv' := [(0, .ref (gad a0)), (1, .int (gI a1)), (2, .int (gI a2)), (3, .int (gI a3)), (4, .int (gI a4)), (5, .int (gI a5)), (6, .int (gI x6)), (7, .int (gI x7))]) [1, 2, 3, 4, 5, 6, 7, 8] rfl ?_
      exact t89 k3 hk3_ k12 hk12_ x6 x7 M h
    · have h := h.2 b9
      refine q_aload_n C 1 rfl rfl dX7_backBlack_49 ?_
      refine q_iload_n C 2 rfl rfl dX7_backBlack_50 ?_
      refine q_iload_n C 3 rfl rfl dX7_backBlack_51 ?_
      refine q_iload C 0 rfl dX7_backBlack_52 ?_
      refine q_iload C 5 rfl dX7_backBlack_54 ?_
      refine q_iconst C dX7_backBlack_56 ?_
      refine q_callVI (As := [.int (gI a1), .int (gI a2), .int (gI y0), .int (gI a4), .int (gI 1)]) (st := []) C vX7_159 kX7_isOpen ⟨Nat.le_of_ble_eq_true rfl, Nat.le_of_ble_eq_true rfl⟩ ⟨Nat.le_of_ble_eq_true rfl, Nat.le_of_ble_eq_true rfl⟩ rfl hk0 ⟨_, _, rfl⟩ (by decide) rfl (Nat.le_of_ble_eq_true rfl) (mX7_isOpen l D cy kd ln rh _ a0 a1 a2 y0 a4 1 M hk0 h) dX7_backBlack_57 (fun c11 M10 g12 h => ?_)
      have h := h g12
      refine q_if_eq (tgt := 89) C g12 (by decide) dX7_backBlack_60 (fun b13 => ?_) (fun b13 => ?_)
      · have h := h.1 b13
        refine q_lv (lv' := [(0, .ref (gad a0)), (1, .int (gI a1)), (2, .int (gI a2)), (3, .int (gI a3)), (4, .int (gI a4)), (5, .int (gI a5)), (6, .int (gI x6)), (7, .int (gI x7))]) [1, 2, 3, 4, 5, 6, 7, 8] rfl ?_
        exact t89 k3 hk3_ k12 hk12_ x6 x7 M10 h
      · have h := h.2 b13
        refine q_aload_n C 1 rfl rfl dX7_backBlack_63 ?_
        refine q_iload_n C 2 rfl rfl dX7_backBlack_64 ?_
        refine q_iload_n C 3 rfl rfl dX7_backBlack_65 ?_
        refine q_iload C 0 rfl dX7_backBlack_66 ?_
        refine q_iload C 5 rfl dX7_backBlack_68 ?_
        refine q_callVI (As := [.int (gI a1), .int (gI a2), .int (gI y0), .int (gI a4)]) (st := []) C vX7_162 kX7_allDecided ⟨Nat.le_of_ble_eq_true rfl, Nat.le_of_ble_eq_true rfl⟩ ⟨Nat.le_of_ble_eq_true rfl, Nat.le_of_ble_eq_true rfl⟩ rfl hk0 ⟨_, _, rfl⟩ (by decide) rfl (Nat.le_of_ble_eq_true rfl) (mX7_allDecided l D cy kd ln rh _ a0 a1 a2 y0 a4 M10 hk0 h) dX7_backBlack_70 (fun c15 M14 g16 h => ?_)
        have h := h g16
        refine q_if_eq (tgt := 89) C g16 (by decide) dX7_backBlack_73 (fun b17 => ?_) (fun b17 => ?_)
        · have h := h.1 b17
          refine q_lv (lv' := [(0, .ref (gad a0)), (1, .int (gI a1)), (2, .int (gI a2)), (3, .int (gI a3)), (4, .int (gI a4)), (5, .int (gI a5)), (6, .int (gI x6)), (7, .int (gI x7))]) [1, 2, 3, 4, 5, 6, 7, 8] rfl ?_
          exact t89 k3 hk3_ k12 hk12_ x6 x7 M14 h
        · have h := h.2 b17
          refine q_aload_n C 1 rfl rfl dX7_backBlack_76 ?_
          refine q_iload_n C 2 rfl rfl dX7_backBlack_77 ?_
          refine q_iload_n C 3 rfl rfl dX7_backBlack_78 ?_
          refine q_iload C 0 rfl dX7_backBlack_79 ?_
          refine q_iload C 5 rfl dX7_backBlack_81 ?_
          refine q_iconst C dX7_backBlack_83 ?_
          refine q_iload C 6 rfl dX7_backBlack_84 ?_
          refine q_callVV (As := [.int (gI a1), .int (gI a2), .int (gI y0), .int (gI a4), .int (gI 1), .int (gI a5)]) (st := []) C vX7_142 kX7_decide ⟨Nat.le_of_ble_eq_true rfl, Nat.le_of_ble_eq_true rfl⟩ ⟨Nat.le_of_ble_eq_true rfl, Nat.le_of_ble_eq_true rfl⟩ rfl hk0 ⟨_, _, rfl⟩ (by decide) rfl (Nat.le_of_ble_eq_true rfl) (mX7_decide l D cy kd ln rh _ a0 a1 a2 y0 a4 1 a5 M14 hk0 h) dX7_backBlack_86 (fun M18 h => ?_)
          refine q_lv (lv' := [(0, .ref (gad a0)), (1, .int (gI a1)), (2, .int (gI a2)), (3, .int (gI a3)), (4, .int (gI a4)), (5, .int (gI a5)), (6, .int (gI x6)), (7, .int (gI x7))]) [1, 2, 3, 4, 5, 6, 7, 8] rfl ?_
          exact t89 k3 hk3_ k12 hk12_ x6 x7 M18 h
  have t32 : ∀ (k3 : Int → gM → Prop), (∀ (x6 : Int), ∀ (M : gM), k3 x6 M → gW p l e (gRm 6 154) s m args below meth c D cy A H0 Q 9 kd ln rh 0 0 M 3 [(0, .ref (gad a0)), (1, .int (gI a1)), (2, .int (gI a2)), (3, .int (gI a3)), (4, .int (gI a4)), (5, .int (gI a5)), (6, .int (gI x6))] []) → ∀ (k12 : Int → Int → gM → Prop), (∀ (x6 : Int), ∀ (x7 : Int), ∀ (M : gM), k12 x6 x7 M → gW p l e (gRm 6 154) s m args below meth c D cy A H0 Q 9 kd ln rh 0 0 M 12 [(0, .ref (gad a0)), (1, .int (gI a1)), (2, .int (gI a2)), (3, .int (gI a3)), (4, .int (gI a4)), (5, .int (gI a5)), (6, .int (gI x6)), (7, .int (gI x7))] []) → ∀ (x6 : Int) (x7 : Int) (M : gM), wX7_backBlack_32 kd ln post a0 a1 a2 a3 a4 a5 k3 k12 x6 x7 M → gW p l e (gRm 6 154) s m args below meth c D cy A H0 Q 9 kd ln rh 0 0 M 32 [(0, .ref (gad a0)), (1, .int (gI a1)), (2, .int (gI a2)), (3, .int (gI a3)), (4, .int (gI a4)), (5, .int (gI a5)), (6, .int (gI x6)), (7, .int (gI x7))] [] := by
    intro k3 hk3_ k12 hk12_ x6 x7 M h
    unfold wX7_backBlack_32 at h
    refine q_aload_n C 0 rfl rfl dX7_backBlack_32 ?_
    refine q_iload_n C 3 rfl rfl dX7_backBlack_33 ?_
    refine q_iload C 6 rfl dX7_backBlack_34 ?_
    refine q_iload C 7 rfl dX7_backBlack_36 ?_
    refine q_callVI (As := [.int (gI a3), .int (gI x6), .int (gI x7)]) (st := []) C vX7_92 kX7_off ⟨Nat.le_of_ble_eq_true rfl, Nat.le_of_ble_eq_true rfl⟩ ⟨Nat.le_of_ble_eq_true rfl, Nat.le_of_ble_eq_true rfl⟩ rfl hk0 ⟨_, _, rfl⟩ (by decide) rfl (Nat.le_of_ble_eq_true rfl) (mX7_off l D cy kd ln rh _ a0 a3 x6 x7 M hk0 h) dX7_backBlack_38 (fun c22 M21 g23 h => ?_)
    have h := h g23
    exact t41 k3 hk3_ k12 hk12_ x6 x7 c22 M21 h
  have t12 : ∀ (k3 : Int → gM → Prop), (∀ (x6 : Int), ∀ (M : gM), k3 x6 M → gW p l e (gRm 6 154) s m args below meth c D cy A H0 Q 9 kd ln rh 0 0 M 3 [(0, .ref (gad a0)), (1, .int (gI a1)), (2, .int (gI a2)), (3, .int (gI a3)), (4, .int (gI a4)), (5, .int (gI a5)), (6, .int (gI x6))] []) → ∀ (n : Nat) (x6 : Int) (x7 : Int) (M : gM), wX7_backBlack_12 kd ln post a0 a1 a2 a3 a4 a5 k3 n x6 x7 M → gW p l e (gRm 6 154) s m args below meth c D cy A H0 Q 9 kd ln rh 0 0 M 12 [(0, .ref (gad a0)), (1, .int (gI a1)), (2, .int (gI a2)), (3, .int (gI a3)), (4, .int (gI a4)), (5, .int (gI a5)), (6, .int (gI x6)), (7, .int (gI x7))] [] := by
    intro k3 hk3_
    intro n
    induction n with
    | zero => intro x6 x7 M h; exact absurd h (by simp [wX7_backBlack_12])
    | succ n ih =>
      intro x6 x7 M h
      have hk12_ := ih
      rw [wX7_backBlack_12] at h
      refine q_iload C 7 rfl dX7_backBlack_12 ?_
      refine q_iconst C dX7_backBlack_14 ?_
      obtain ⟨r3, h⟩ := h
      refine q_icmp_gt (tgt := 95) C r3 (show rng 1 by decide) (by decide) dX7_backBlack_15 (fun b4 => ?_) (fun b4 => ?_)
      · have h := h.1 b4
        refine q_iinc (lv' := [(6, .int (gI (x6 + 1))), (0, .ref (gad a0)), (1, .int (gI a1)), (2, .int (gI a2)), (3, .int (gI a3)), (4, .int (gI a4)), (5, .int (gI a5)), (7, .int (gI x7))]) C 6 rfl (by decide) rfl dX7_backBlack_95 ?_
        refine q_goto (tgt := 3) C (by decide) dX7_backBlack_98 ?_
        refine q_lv (lv' := [(0, .ref (gad a0)), (1, .int (gI a1)), (2, .int (gI a2)), (3, .int (gI a3)), (4, .int (gI a4)), (5, .int (gI a5)), (6, .int (gI (x6 + 1)))]) [1, 2, 3, 4, 5, 6, 0] rfl ?_
        exact hk3_ (x6 + 1) M h
      · have h := h.2 b4
        refine q_iload C 6 rfl dX7_backBlack_18 ?_
        obtain ⟨r5, h⟩ := h
        refine q_if_ne (tgt := 32) C r5 (by decide) dX7_backBlack_20 (fun b6 => ?_) (fun b6 => ?_)
        · have h := h.1 b6
          exact t32 k3 hk3_ (wX7_backBlack_12 kd ln post a0 a1 a2 a3 a4 a5 k3 n) hk12_ x6 x7 M h
        · have h := h.2 b6
          refine q_iload C 7 rfl dX7_backBlack_23 ?_
          refine q_if_ne (tgt := 32) C r3 (by decide) dX7_backBlack_25 (fun b7 => ?_) (fun b7 => ?_)
          · have h := h.1 b7
            exact t32 k3 hk3_ (wX7_backBlack_12 kd ln post a0 a1 a2 a3 a4 a5 k3 n) hk12_ x6 x7 M h
          · have h := h.2 b7
            refine q_iconst C dX7_backBlack_28 ?_
            refine q_goto (tgt := 41) C (by decide) dX7_backBlack_29 ?_
            exact t41 k3 hk3_ (wX7_backBlack_12 kd ln post a0 a1 a2 a3 a4 a5 k3 n) hk12_ x6 x7 (-1) M h
  have t3 : ∀ (n : Nat) (x6 : Int) (M : gM), wX7_backBlack_3 kd ln post a0 a1 a2 a3 a4 a5 n x6 M → gW p l e (gRm 6 154) s m args below meth c D cy A H0 Q 9 kd ln rh 0 0 M 3 [(0, .ref (gad a0)), (1, .int (gI a1)), (2, .int (gI a2)), (3, .int (gI a3)), (4, .int (gI a4)), (5, .int (gI a5)), (6, .int (gI x6))] [] := by
    intro n
    induction n with
    | zero => intro x6 M h; exact absurd h (by simp [wX7_backBlack_3])
    | succ n ih =>
      intro x6 M h
      have hk3_ := ih
      rw [wX7_backBlack_3] at h
      refine q_iload C 6 rfl dX7_backBlack_3 ?_
      refine q_iconst C dX7_backBlack_5 ?_
      obtain ⟨r1, h⟩ := h
      refine q_icmp_gt (tgt := 101) C r1 (show rng 1 by decide) (by decide) dX7_backBlack_6 (fun b2 => ?_) (fun b2 => ?_)
      · have h := h.1 b2
        exact hret M _ _ dX7_backBlack_101 h
      · have h := h.2 b2
        refine q_iconst C dX7_backBlack_9 ?_
        refine q_istore (lv' := [(7, .int (gI (-1))), (0, .ref (gad a0)), (1, .int (gI a1)), (2, .int (gI a2)), (3, .int (gI a3)), (4, .int (gI a4)), (5, .int (gI a5)), (6, .int (gI x6))]) C (by decide) rfl dX7_backBlack_10 ?_
        refine q_lv (lv' := [(0, .ref (gad a0)), (1, .int (gI a1)), (2, .int (gI a2)), (3, .int (gI a3)), (4, .int (gI a4)), (5, .int (gI a5)), (6, .int (gI x6)), (7, .int (gI (-1)))]) [1, 2, 3, 4, 5, 6, 7, 0] rfl ?_
        obtain ⟨j12, h⟩ := h
        exact t12 (wX7_backBlack_3 kd ln post a0 a1 a2 a3 a4 a5 n) hk3_ j12 x6 (-1) M h
  unfold wX7_backBlack at h
  refine q_iconst C dX7_backBlack_0 ?_
  refine q_istore (lv' := [(6, .int (gI (-1))), (0, .ref (gad a0)), (1, .int (gI a1)), (2, .int (gI a2)), (3, .int (gI a3)), (4, .int (gI a4)), (5, .int (gI a5))]) C (by decide) rfl dX7_backBlack_1 ?_
  refine q_lv (lv' := [(0, .ref (gad a0)), (1, .int (gI a1)), (2, .int (gI a2)), (3, .int (gI a3)), (4, .int (gI a4)), (5, .int (gI a5)), (6, .int (gI (-1)))]) [1, 2, 3, 4, 5, 6, 0] rfl ?_
  obtain ⟨j3, h⟩ := h
  exact t3  j3 (-1) M h
set_option maxHeartbeats 4000000 in
set_option maxRecDepth 100000 in
theorem mX7_layer (l : Launch) (D : va_G) (cy : Nat → ClassId) (kd : gKd) (ln : gLn) (rh : gRh) (post : gM → Prop) (a0 : Int) (a1 : Int) (a2 : Int) (M : gM) (hk0 : kd a0 = 7) (h : wX7_layer kd ln post a0 a1 a2 M) : gMV l D cy yX7_layer cX7_layer 7 7 182 [.ref (gad a0), .int (gI a1), .int (gI a2)] kd ln rh M post := by
  refine gMV_of (own := RX7) (by decide) rfl (Nat.le_of_ble_eq_true rfl) ?_
  intro p e s m args below meth c A H0 Q C hret
  have t97 : ∀ (k7 : Int → Int → gM → Prop), (∀ (x3 : Int), ∀ (x4 : Int), ∀ (M : gM), k7 x3 x4 M → gW p l e (gRm 7 182) s m args below meth c D cy A H0 Q 7 kd ln rh 0 0 M 7 [(0, .ref (gad a0)), (1, .int (gI a1)), (2, .int (gI a2)), (3, .int (gI x3)), (4, .int (gI x4))] []) → ∀ (k19 : Int → Int → Int → gM → Prop), (∀ (x3 : Int), ∀ (x4 : Int), ∀ (x5 : Int), ∀ (M : gM), k19 x3 x4 x5 M → gW p l e (gRm 7 182) s m args below meth c D cy A H0 Q 7 kd ln rh 0 0 M 19 [(0, .ref (gad a0)), (1, .int (gI a1)), (2, .int (gI a2)), (3, .int (gI x3)), (4, .int (gI x4)), (5, .int (gI x5))] []) → ∀ (k31 : Int → Int → Int → Int → gM → Prop), (∀ (x3 : Int), ∀ (x4 : Int), ∀ (x5 : Int), ∀ (x6 : Int), ∀ (M : gM), k31 x3 x4 x5 x6 M → gW p l e (gRm 7 182) s m args below meth c D cy A H0 Q 7 kd ln rh 0 0 M 31 [(0, .ref (gad a0)), (1, .int (gI a1)), (2, .int (gI a2)), (3, .int (gI x3)), (4, .int (gI x4)), (5, .int (gI x5)), (6, .int (gI x6))] []) → ∀ (x3 : Int) (x4 : Int) (x5 : Int) (x6 : Int) (M : gM), wX7_layer_97 kd ln post a0 a1 a2 k7 k19 k31 x3 x4 x5 x6 M → gW p l e (gRm 7 182) s m args below meth c D cy A H0 Q 7 kd ln rh 0 0 M 97 [(0, .ref (gad a0)), (1, .int (gI a1)), (2, .int (gI a2)), (3, .int (gI x3)), (4, .int (gI x4)), (5, .int (gI x5)), (6, .int (gI x6))] [] := by
    intro k7 hk7_ k19 hk19_ k31 hk31_ x3 x4 x5 x6 M h
    unfold wX7_layer_97 at h
    refine q_iinc (lv' := [(6, .int (gI (x6 + 1))), (0, .ref (gad a0)), (1, .int (gI a1)), (2, .int (gI a2)), (3, .int (gI x3)), (4, .int (gI x4)), (5, .int (gI x5))]) C 6 rfl (by decide) rfl dX7_layer_97 ?_
    refine q_goto (tgt := 31) C (by decide) dX7_layer_100 ?_
    refine q_lv (lv' := [(0, .ref (gad a0)), (1, .int (gI a1)), (2, .int (gI a2)), (3, .int (gI x3)), (4, .int (gI x4)), (5, .int (gI x5)), (6, .int (gI (x6 + 1)))]) [1, 2, 3, 4, 5, 6, 0] rfl ?_
    exact hk31_ x3 x4 x5 (x6 + 1) M h
  have t31 : ∀ (k7 : Int → Int → gM → Prop), (∀ (x3 : Int), ∀ (x4 : Int), ∀ (M : gM), k7 x3 x4 M → gW p l e (gRm 7 182) s m args below meth c D cy A H0 Q 7 kd ln rh 0 0 M 7 [(0, .ref (gad a0)), (1, .int (gI a1)), (2, .int (gI a2)), (3, .int (gI x3)), (4, .int (gI x4))] []) → ∀ (k19 : Int → Int → Int → gM → Prop), (∀ (x3 : Int), ∀ (x4 : Int), ∀ (x5 : Int), ∀ (M : gM), k19 x3 x4 x5 M → gW p l e (gRm 7 182) s m args below meth c D cy A H0 Q 7 kd ln rh 0 0 M 19 [(0, .ref (gad a0)), (1, .int (gI a1)), (2, .int (gI a2)), (3, .int (gI x3)), (4, .int (gI x4)), (5, .int (gI x5))] []) → ∀ (n : Nat) (x3 : Int) (x4 : Int) (x5 : Int) (x6 : Int) (M : gM), wX7_layer_31 kd ln post a0 a1 a2 k7 k19 n x3 x4 x5 x6 M → gW p l e (gRm 7 182) s m args below meth c D cy A H0 Q 7 kd ln rh 0 0 M 31 [(0, .ref (gad a0)), (1, .int (gI a1)), (2, .int (gI a2)), (3, .int (gI x3)), (4, .int (gI x4)), (5, .int (gI x5)), (6, .int (gI x6))] [] := by
    intro k7 hk7_ k19 hk19_
    intro n
    induction n with
    | zero => intro x3 x4 x5 x6 M h; exact absurd h (by simp [wX7_layer_31])
    | succ n ih =>
      intro x3 x4 x5 x6 M h
      have hk31_ := ih
      rw [wX7_layer_31] at h
      refine q_iload C 6 rfl dX7_layer_31 ?_
      refine q_aload_n C 0 rfl rfl dX7_layer_33 ?_
      refine q_get (v := .int (gI (M a0 2 (-1)))) C fX7_13 hk0 rfl dX7_layer_34 (fun g9 => ?_)
      have h := h g9
      obtain ⟨r10, h⟩ := h
      refine q_icmp_ge (tgt := 103) C r10 g9 (by decide) dX7_layer_37 (fun b11 => ?_) (fun b11 => ?_)
      · have h := h.1 b11
        refine q_iinc (lv' := [(5, .int (gI (x5 + 1))), (0, .ref (gad a0)), (1, .int (gI a1)), (2, .int (gI a2)), (3, .int (gI x3)), (4, .int (gI x4)), (6, .int (gI x6))]) C 5 rfl (by decide) rfl dX7_layer_103 ?_
        refine q_goto (tgt := 19) C (by decide) dX7_layer_106 ?_
        refine q_lv (lv' := [(0, .ref (gad a0)), (1, .int (gI a1)), (2, .int (gI a2)), (3, .int (gI x3)), (4, .int (gI x4)), (5, .int (gI (x5 + 1)))]) [1, 2, 3, 4, 5, 0] rfl ?_
        exact hk19_ x3 x4 (x5 + 1) M h
      · have h := h.2 b11
        refine q_aload_n C 0 rfl rfl dX7_layer_40 ?_
        obtain ⟨r12, h⟩ := h
        refine q_get (v := .ref (rh a0 4)) C fX7_21 hk0 (if_neg (Int.not_lt.mpr r12)) dX7_layer_41 (fun g13 => ?_)
        refine q_ldc (n := 524288) C nX7_118 (by decide) dX7_layer_44 ?_
        refine q_iload_n C 1 rfl rfl dX7_layer_46 ?_
        refine q_imul C dX7_layer_47 ?_
        refine q_aload_n C 0 rfl rfl dX7_layer_48 ?_
        refine q_iload C 4 rfl dX7_layer_49 ?_
        refine q_iload C 5 rfl dX7_layer_51 ?_
        refine q_iload C 6 rfl dX7_layer_53 ?_
        refine q_iload_n C 3 rfl rfl dX7_layer_55 ?_
        refine q_callVI (As := [.int (gI x4), .int (gI x5), .int (gI x6), .int (gI x3)]) (st := [.int (gI (524288 * a1)), .ref (rh a0 4)]) C vX7_119 kX7_key ⟨Nat.le_of_ble_eq_true rfl, Nat.le_of_ble_eq_true rfl⟩ ⟨Nat.le_of_ble_eq_true rfl, Nat.le_of_ble_eq_true rfl⟩ rfl hk0 ⟨_, _, rfl⟩ (by decide) rfl (Nat.le_of_ble_eq_true rfl) (mX7_key l D cy kd ln rh _ a0 x4 x5 x6 x3 M hk0 h) dX7_layer_56 (fun c15 M14 g16 h => ?_)
        have h := h g16
        refine q_iadd C dX7_layer_59 ?_
        obtain ⟨r17, h⟩ := h
        refine q_bald C hk0 rfl (fun _ q => q) r17 dX7_layer_60 (fun g18 => ?_)
        have h := h g18
        refine q_iload_n C 2 rfl rfl dX7_layer_61 ?_
        obtain ⟨r19, h⟩ := h
        refine q_icmp_ne (tgt := 97) C g18 r19 (by decide) dX7_layer_62 (fun b20 => ?_) (fun b20 => ?_)
        · have h := h.1 b20
          exact t97 k7 hk7_ k19 hk19_ (wX7_layer_31 kd ln post a0 a1 a2 k7 k19 n) hk31_ x3 x4 x5 x6 M14 h
        · have h := h.2 b20
          refine q_iload_n C 3 rfl rfl dX7_layer_65 ?_
          refine q_iconst C dX7_layer_66 ?_
          obtain ⟨r21, h⟩ := h
          refine q_icmp_ne (tgt := 85) C r21 (show rng 1 by decide) (by decide) dX7_layer_67 (fun b22 => ?_) (fun b22 => ?_)
          · have h := h.1 b22
            refine q_aload_n C 0 rfl rfl dX7_layer_85 ?_
            refine q_iload_n C 1 rfl rfl dX7_layer_86 ?_
            refine q_iload C 4 rfl dX7_layer_87 ?_
            refine q_iload C 5 rfl dX7_layer_89 ?_
            refine q_iload C 6 rfl dX7_layer_91 ?_
            refine q_iload_n C 2 rfl rfl dX7_layer_93 ?_
            refine q_callVV (As := [.int (gI a1), .int (gI x4), .int (gI x5), .int (gI x6), .int (gI a2)]) (st := []) C vX7_156 kX7_backBlack ⟨Nat.le_of_ble_eq_true rfl, Nat.le_of_ble_eq_true rfl⟩ ⟨Nat.le_of_ble_eq_true rfl, Nat.le_of_ble_eq_true rfl⟩ rfl hk0 ⟨_, _, rfl⟩ (by decide) rfl (Nat.le_of_ble_eq_true rfl) (mX7_backBlack l D cy kd ln rh _ a0 a1 x4 x5 x6 a2 M14 hk0 h) dX7_layer_94 (fun M23 h => ?_)
            exact t97 k7 hk7_ k19 hk19_ (wX7_layer_31 kd ln post a0 a1 a2 k7 k19 n) hk31_ x3 x4 x5 x6 M23 h
          · have h := h.2 b22
            refine q_aload_n C 0 rfl rfl dX7_layer_70 ?_
            refine q_iload_n C 1 rfl rfl dX7_layer_71 ?_
            refine q_iload C 4 rfl dX7_layer_72 ?_
            refine q_iload C 5 rfl dX7_layer_74 ?_
            refine q_iload C 6 rfl dX7_layer_76 ?_
            refine q_iload_n C 2 rfl rfl dX7_layer_78 ?_
            refine q_callVV (As := [.int (gI a1), .int (gI x4), .int (gI x5), .int (gI x6), .int (gI a2)]) (st := []) C vX7_153 kX7_backWhite ⟨Nat.le_of_ble_eq_true rfl, Nat.le_of_ble_eq_true rfl⟩ ⟨Nat.le_of_ble_eq_true rfl, Nat.le_of_ble_eq_true rfl⟩ rfl hk0 ⟨_, _, rfl⟩ (by decide) rfl (Nat.le_of_ble_eq_true rfl) (mX7_backWhite l D cy kd ln rh _ a0 a1 x4 x5 x6 a2 M14 hk0 h) dX7_layer_79 (fun M26 h => ?_)
            refine q_goto (tgt := 97) C (by decide) dX7_layer_82 ?_
            exact t97 k7 hk7_ k19 hk19_ (wX7_layer_31 kd ln post a0 a1 a2 k7 k19 n) hk31_ x3 x4 x5 x6 M26 h
  have t19 : ∀ (k7 : Int → Int → gM → Prop), (∀ (x3 : Int), ∀ (x4 : Int), ∀ (M : gM), k7 x3 x4 M → gW p l e (gRm 7 182) s m args below meth c D cy A H0 Q 7 kd ln rh 0 0 M 7 [(0, .ref (gad a0)), (1, .int (gI a1)), (2, .int (gI a2)), (3, .int (gI x3)), (4, .int (gI x4))] []) → ∀ (n : Nat) (x3 : Int) (x4 : Int) (x5 : Int) (M : gM), wX7_layer_19 kd ln post a0 a1 a2 k7 n x3 x4 x5 M → gW p l e (gRm 7 182) s m args below meth c D cy A H0 Q 7 kd ln rh 0 0 M 19 [(0, .ref (gad a0)), (1, .int (gI a1)), (2, .int (gI a2)), (3, .int (gI x3)), (4, .int (gI x4)), (5, .int (gI x5))] [] := by
    intro k7 hk7_
    intro n
    induction n with
    | zero => intro x3 x4 x5 M h; exact absurd h (by simp [wX7_layer_19])
    | succ n ih =>
      intro x3 x4 x5 M h
      have hk19_ := ih
      rw [wX7_layer_19] at h
      refine q_iload C 5 rfl dX7_layer_19 ?_
      refine q_aload_n C 0 rfl rfl dX7_layer_21 ?_
      refine q_get (v := .int (gI (M a0 2 (-1)))) C fX7_13 hk0 rfl dX7_layer_22 (fun g6 => ?_)
      have h := h g6
      obtain ⟨r7, h⟩ := h
      refine q_icmp_ge (tgt := 109) C r7 g6 (by decide) dX7_layer_25 (fun b8 => ?_) (fun b8 => ?_)
      · have h := h.1 b8
        refine q_iinc (lv' := [(4, .int (gI (x4 + 1))), (0, .ref (gad a0)), (1, .int (gI a1)), (2, .int (gI a2)), (3, .int (gI x3)), (5, .int (gI x5))]) C 4 rfl (by decide) rfl dX7_layer_109 ?_
        refine q_goto (tgt := 7) C (by decide) dX7_layer_112 ?_
        refine q_lv (lv' := [(0, .ref (gad a0)), (1, .int (gI a1)), (2, .int (gI a2)), (3, .int (gI x3)), (4, .int (gI (x4 + 1)))]) [1, 2, 3, 4, 0] rfl ?_
        exact hk7_ x3 (x4 + 1) M h
      · have h := h.2 b8
        refine q_iconst C dX7_layer_28 ?_
        refine q_istore (lv' := [(6, .int (gI 0)), (0, .ref (gad a0)), (1, .int (gI a1)), (2, .int (gI a2)), (3, .int (gI x3)), (4, .int (gI x4)), (5, .int (gI x5))]) C (by decide) rfl dX7_layer_29 ?_
        refine q_lv (lv' := [(0, .ref (gad a0)), (1, .int (gI a1)), (2, .int (gI a2)), (3, .int (gI x3)), (4, .int (gI x4)), (5, .int (gI x5)), (6, .int (gI 0))]) [1, 2, 3, 4, 5, 6, 0] rfl ?_
        obtain ⟨j31, h⟩ := h
        exact t31 k7 hk7_ (wX7_layer_19 kd ln post a0 a1 a2 k7 n) hk19_ j31 x3 x4 x5 0 M h
  have t7 : ∀ (n : Nat) (x3 : Int) (x4 : Int) (M : gM), wX7_layer_7 kd ln post a0 a1 a2 n x3 x4 M → gW p l e (gRm 7 182) s m args below meth c D cy A H0 Q 7 kd ln rh 0 0 M 7 [(0, .ref (gad a0)), (1, .int (gI a1)), (2, .int (gI a2)), (3, .int (gI x3)), (4, .int (gI x4))] [] := by
    intro n
    induction n with
    | zero => intro x3 x4 M h; exact absurd h (by simp [wX7_layer_7])
    | succ n ih =>
      intro x3 x4 M h
      have hk7_ := ih
      rw [wX7_layer_7] at h
      refine q_iload C 4 rfl dX7_layer_7 ?_
      refine q_aload_n C 0 rfl rfl dX7_layer_9 ?_
      refine q_get (v := .int (gI (M a0 2 (-1)))) C fX7_13 hk0 rfl dX7_layer_10 (fun g3 => ?_)
      have h := h g3
      obtain ⟨r4, h⟩ := h
      refine q_icmp_ge (tgt := 115) C r4 g3 (by decide) dX7_layer_13 (fun b5 => ?_) (fun b5 => ?_)
      · have h := h.1 b5
        exact hret M _ _ dX7_layer_115 h
      · have h := h.2 b5
        refine q_iconst C dX7_layer_16 ?_
        refine q_istore (lv' := [(5, .int (gI 0)), (0, .ref (gad a0)), (1, .int (gI a1)), (2, .int (gI a2)), (3, .int (gI x3)), (4, .int (gI x4))]) C (by decide) rfl dX7_layer_17 ?_
        refine q_lv (lv' := [(0, .ref (gad a0)), (1, .int (gI a1)), (2, .int (gI a2)), (3, .int (gI x3)), (4, .int (gI x4)), (5, .int (gI 0))]) [1, 2, 3, 4, 5, 0] rfl ?_
        obtain ⟨j19, h⟩ := h
        exact t19 (wX7_layer_7 kd ln post a0 a1 a2 n) hk7_ j19 x3 x4 0 M h
  unfold wX7_layer at h
  refine q_iload_n C 2 rfl rfl dX7_layer_0 ?_
  refine q_iconst C dX7_layer_1 ?_
  obtain ⟨r1, h⟩ := h
  refine q_irem C ⟨r1.1, r1.2, by decide, by decide⟩ dX7_layer_2 ?_
  refine q_topi (fun v2 ev2 => ?_)
  have h := h v2 ev2
  refine q_istore_n (lv' := [(3, .int (gI v2)), (0, .ref (gad a0)), (1, .int (gI a1)), (2, .int (gI a2))]) C rfl (by decide) rfl dX7_layer_3 ?_
  refine q_iconst C dX7_layer_4 ?_
  refine q_istore (lv' := [(4, .int (gI 0)), (3, .int (gI v2)), (0, .ref (gad a0)), (1, .int (gI a1)), (2, .int (gI a2))]) C (by decide) rfl dX7_layer_5 ?_
  refine q_lv (lv' := [(0, .ref (gad a0)), (1, .int (gI a1)), (2, .int (gI a2)), (3, .int (gI v2)), (4, .int (gI 0))]) [2, 3, 4, 1, 0] rfl ?_
  obtain ⟨j7, h⟩ := h
  exact t7  j7 v2 0 M h
set_option maxHeartbeats 4000000 in
set_option maxRecDepth 100000 in
theorem mX7_promotions (l : Launch) (D : va_G) (cy : Nat → ClassId) (kd : gKd) (ln : gLn) (rh : gRh) (post : gM → Prop) (a0 : Int) (a1 : Int) (M : gM) (hk0 : kd a0 = 7) (h : wX7_promotions kd ln post a0 a1 M) : gMV l D cy yX7_promotions cX7_promotions 6 5 125 [.ref (gad a0), .int (gI a1)] kd ln rh M post := by
  refine gMV_of (own := RX7) (by decide) rfl (Nat.le_of_ble_eq_true rfl) ?_
  intro p e s m args below meth c A H0 Q C hret
  have t127 : ∀ (k2 : Int → gM → Prop), (∀ (x2 : Int), ∀ (M : gM), k2 x2 M → gW p l e (gRm 5 125) s m args below meth c D cy A H0 Q 6 kd ln rh 0 0 M 2 [(0, .ref (gad a0)), (1, .int (gI a1)), (2, .int (gI x2))] []) → ∀ (k12 : Int → Int → gM → Prop), (∀ (x2 : Int), ∀ (x3 : Int), ∀ (M : gM), k12 x2 x3 M → gW p l e (gRm 5 125) s m args below meth c D cy A H0 Q 6 kd ln rh 0 0 M 12 [(0, .ref (gad a0)), (1, .int (gI a1)), (2, .int (gI x2)), (3, .int (gI x3))] []) → ∀ (k33 : Int → Int → Int → gM → Prop), (∀ (x2 : Int), ∀ (x3 : Int), ∀ (x4 : Int), ∀ (M : gM), k33 x2 x3 x4 M → gW p l e (gRm 5 125) s m args below meth c D cy A H0 Q 6 kd ln rh 0 0 M 33 [(0, .ref (gad a0)), (1, .int (gI a1)), (2, .int (gI x2)), (3, .int (gI x3)), (4, .int (gI x4))] []) → ∀ (x2 : Int) (x3 : Int) (x4 : Int) (M : gM), wX7_promotions_127 kd ln post a0 a1 k2 k12 k33 x2 x3 x4 M → gW p l e (gRm 5 125) s m args below meth c D cy A H0 Q 6 kd ln rh 0 0 M 127 [(0, .ref (gad a0)), (1, .int (gI a1)), (2, .int (gI x2)), (3, .int (gI x3)), (4, .int (gI x4))] [] := by
    intro k2 hk2_ k12 hk12_ k33 hk33_ x2 x3 x4 M h
    unfold wX7_promotions_127 at h
    refine q_iinc (lv' := [(4, .int (gI (x4 + 1))), (0, .ref (gad a0)), (1, .int (gI a1)), (2, .int (gI x2)), (3, .int (gI x3))]) C 4 rfl (by decide) rfl dX7_promotions_127 ?_
    refine q_goto (tgt := 33) C (by decide) dX7_promotions_130 ?_
    refine q_lv (lv' := [(0, .ref (gad a0)), (1, .int (gI a1)), (2, .int (gI x2)), (3, .int (gI x3)), (4, .int (gI (x4 + 1)))]) [1, 2, 3, 4, 0] rfl ?_
    exact hk33_ x2 x3 (x4 + 1) M h
  have t116 : ∀ (k2 : Int → gM → Prop), (∀ (x2 : Int), ∀ (M : gM), k2 x2 M → gW p l e (gRm 5 125) s m args below meth c D cy A H0 Q 6 kd ln rh 0 0 M 2 [(0, .ref (gad a0)), (1, .int (gI a1)), (2, .int (gI x2))] []) → ∀ (k12 : Int → Int → gM → Prop), (∀ (x2 : Int), ∀ (x3 : Int), ∀ (M : gM), k12 x2 x3 M → gW p l e (gRm 5 125) s m args below meth c D cy A H0 Q 6 kd ln rh 0 0 M 12 [(0, .ref (gad a0)), (1, .int (gI a1)), (2, .int (gI x2)), (3, .int (gI x3))] []) → ∀ (k33 : Int → Int → Int → gM → Prop), (∀ (x2 : Int), ∀ (x3 : Int), ∀ (x4 : Int), ∀ (M : gM), k33 x2 x3 x4 M → gW p l e (gRm 5 125) s m args below meth c D cy A H0 Q 6 kd ln rh 0 0 M 33 [(0, .ref (gad a0)), (1, .int (gI a1)), (2, .int (gI x2)), (3, .int (gI x3)), (4, .int (gI x4))] []) → ∀ (x2 : Int) (x3 : Int) (x4 : Int) (M : gM), wX7_promotions_116 kd ln post a0 a1 k2 k12 k33 x2 x3 x4 M → gW p l e (gRm 5 125) s m args below meth c D cy A H0 Q 6 kd ln rh 0 0 M 116 [(0, .ref (gad a0)), (1, .int (gI a1)), (2, .int (gI x2)), (3, .int (gI x3)), (4, .int (gI x4))] [] := by
    intro k2 hk2_ k12 hk12_ k33 hk33_ x2 x3 x4 M h
    unfold wX7_promotions_116 at h
    refine q_aload_n C 0 rfl rfl dX7_promotions_116 ?_
    refine q_iconst C dX7_promotions_117 ?_
    refine q_iload_n C 2 rfl rfl dX7_promotions_118 ?_
    refine q_iload_n C 3 rfl rfl dX7_promotions_119 ?_
    refine q_iload C 4 rfl dX7_promotions_120 ?_
    refine q_iconst C dX7_promotions_122 ?_
    refine q_iload_n C 1 rfl rfl dX7_promotions_123 ?_
    refine q_callVV (As := [.int (gI 2), .int (gI x2), .int (gI x3), .int (gI x4), .int (gI 0), .int (gI a1)]) (st := []) C vX7_142 kX7_decide ⟨Nat.le_of_ble_eq_true rfl, Nat.le_of_ble_eq_true rfl⟩ ⟨Nat.le_of_ble_eq_true rfl, Nat.le_of_ble_eq_true rfl⟩ rfl hk0 ⟨_, _, rfl⟩ (by decide) rfl (Nat.le_of_ble_eq_true rfl) (mX7_decide l D cy kd ln rh _ a0 2 x2 x3 x4 0 a1 M hk0 h) dX7_promotions_124 (fun M35 h => ?_)
    exact t127 k2 hk2_ k12 hk12_ k33 hk33_ x2 x3 x4 M35 h
  have t33 : ∀ (k2 : Int → gM → Prop), (∀ (x2 : Int), ∀ (M : gM), k2 x2 M → gW p l e (gRm 5 125) s m args below meth c D cy A H0 Q 6 kd ln rh 0 0 M 2 [(0, .ref (gad a0)), (1, .int (gI a1)), (2, .int (gI x2))] []) → ∀ (k12 : Int → Int → gM → Prop), (∀ (x2 : Int), ∀ (x3 : Int), ∀ (M : gM), k12 x2 x3 M → gW p l e (gRm 5 125) s m args below meth c D cy A H0 Q 6 kd ln rh 0 0 M 12 [(0, .ref (gad a0)), (1, .int (gI a1)), (2, .int (gI x2)), (3, .int (gI x3))] []) → ∀ (n : Nat) (x2 : Int) (x3 : Int) (x4 : Int) (M : gM), wX7_promotions_33 kd ln post a0 a1 k2 k12 n x2 x3 x4 M → gW p l e (gRm 5 125) s m args below meth c D cy A H0 Q 6 kd ln rh 0 0 M 33 [(0, .ref (gad a0)), (1, .int (gI a1)), (2, .int (gI x2)), (3, .int (gI x3)), (4, .int (gI x4))] [] := by
    intro k2 hk2_ k12 hk12_
    intro n
    induction n with
    | zero => intro x2 x3 x4 M h; exact absurd h (by simp [wX7_promotions_33])
    | succ n ih =>
      intro x2 x3 x4 M h
      have hk33_ := ih
      rw [wX7_promotions_33] at h
      refine q_iload C 4 rfl dX7_promotions_33 ?_
      refine q_aload_n C 0 rfl rfl dX7_promotions_35 ?_
      refine q_get (v := .int (gI (M a0 2 (-1)))) C fX7_13 hk0 rfl dX7_promotions_36 (fun g10 => ?_)
      have h := h g10
      refine q_aload_n C 0 rfl rfl dX7_promotions_39 ?_
      refine q_get (v := .int (gI (M a0 1 (-1)))) C fX7_7 hk0 rfl dX7_promotions_40 (fun g11 => ?_)
      have h := h g11
      refine q_isub C dX7_promotions_43 ?_
      obtain ⟨r12, h⟩ := h
      obtain ⟨r13, h⟩ := h
      refine q_icmp_ge (tgt := 133) C r12 r13 (by decide) dX7_promotions_44 (fun b14 => ?_) (fun b14 => ?_)
      · have h := h.1 b14
        refine q_iinc (lv' := [(3, .int (gI (x3 + 1))), (0, .ref (gad a0)), (1, .int (gI a1)), (2, .int (gI x2)), (4, .int (gI x4))]) C 3 rfl (by decide) rfl dX7_promotions_133 ?_
        refine q_goto (tgt := 12) C (by decide) dX7_promotions_136 ?_
        refine q_lv (lv' := [(0, .ref (gad a0)), (1, .int (gI a1)), (2, .int (gI x2)), (3, .int (gI (x3 + 1)))]) [1, 2, 3, 0] rfl ?_
        exact hk12_ x2 (x3 + 1) M h
      · have h := h.2 b14
        refine q_iload C 4 rfl dX7_promotions_47 ?_
        refine q_aload_n C 0 rfl rfl dX7_promotions_49 ?_
        refine q_get (v := .int (gI (M a0 1 (-1)))) C fX7_7 hk0 rfl dX7_promotions_50 (fun g15 => ?_)
        refine q_iadd C dX7_promotions_53 ?_
        refine q_topi (fun v16 ev16 => ?_)
        have h := h v16 ev16
        refine q_istore (lv' := [(5, .int (gI v16)), (0, .ref (gad a0)), (1, .int (gI a1)), (2, .int (gI x2)), (3, .int (gI x3)), (4, .int (gI x4))]) C (by decide) rfl dX7_promotions_54 ?_
        refine q_iload C 0 rfl dX7_promotions_56 ?_
        refine q_iload_n C 3 rfl rfl dX7_promotions_58 ?_
        obtain ⟨r17, h⟩ := h
        obtain ⟨r18, h⟩ := h
        refine q_icmp_eq (tgt := 127) C r17 r18 (by decide) dX7_promotions_59 (fun b19 => ?_) (fun b19 => ?_)
        · have h := h.1 b19
          refine q_lv (lv' := [(0, .ref (gad a0)), (1, .int (gI a1)), (2, .int (gI x2)), (3, .int (gI x3)), (4, .int (gI x4))]) [1, 2, 3, 4, 5] rfl ?_
          exact t127 k2 hk2_ k12 hk12_ (wX7_promotions_33 kd ln post a0 a1 k2 k12 n) hk33_ x2 x3 x4 M h
        · have h := h.2 b19
          refine q_iload C 0 rfl dX7_promotions_62 ?_
          refine q_iload_n C 4 rfl rfl dX7_promotions_64 ?_
          obtain ⟨r20, h⟩ := h
          refine q_icmp_eq (tgt := 127) C r17 r20 (by decide) dX7_promotions_65 (fun b21 => ?_) (fun b21 => ?_)
          · have h := h.1 b21
            refine q_lv (lv' := [(0, .ref (gad a0)), (1, .int (gI a1)), (2, .int (gI x2)), (3, .int (gI x3)), (4, .int (gI x4))]) [1, 2, 3, 4, 5] rfl ?_
            exact t127 k2 hk2_ k12 hk12_ (wX7_promotions_33 kd ln post a0 a1 k2 k12 n) hk33_ x2 x3 x4 M h
          · have h := h.2 b21
            refine q_aload_n C 1 rfl rfl dX7_promotions_68 ?_
            refine q_iconst C dX7_promotions_69 ?_
            refine q_iload_n C 3 rfl rfl dX7_promotions_70 ?_
            refine q_iload_n C 4 rfl rfl dX7_promotions_71 ?_
            refine q_iload C 5 rfl dX7_promotions_72 ?_
            refine q_iconst C dX7_promotions_74 ?_
            refine q_callVI (As := [.int (gI 2), .int (gI x2), .int (gI x3), .int (gI x4), .int (gI 0)]) (st := []) C vX7_159 kX7_isOpen ⟨Nat.le_of_ble_eq_true rfl, Nat.le_of_ble_eq_true rfl⟩ ⟨Nat.le_of_ble_eq_true rfl, Nat.le_of_ble_eq_true rfl⟩ rfl hk0 ⟨_, _, rfl⟩ (by decide) rfl (Nat.le_of_ble_eq_true rfl) (mX7_isOpen l D cy kd ln rh _ a0 2 x2 x3 x4 0 M hk0 h) dX7_promotions_75 (fun c23 M22 g24 h => ?_)
            have h := h g24
            refine q_if_ne (tgt := 84) C g24 (by decide) dX7_promotions_78 (fun b25 => ?_) (fun b25 => ?_)
            · have h := h.1 b25
              refine q_aload_n C 1 rfl rfl dX7_promotions_84 ?_
              refine q_iconst C dX7_promotions_85 ?_
              refine q_iload_n C 3 rfl rfl dX7_promotions_86 ?_
              refine q_iload_n C 4 rfl rfl dX7_promotions_87 ?_
              refine q_iload C 0 rfl dX7_promotions_88 ?_
              refine q_iconst C dX7_promotions_90 ?_
              refine q_callVI (As := [.int (gI 0), .int (gI x2), .int (gI x3), .int (gI v16), .int (gI 1)]) (st := []) C vX7_123 kX7_distanceOf ⟨Nat.le_of_ble_eq_true rfl, Nat.le_of_ble_eq_true rfl⟩ ⟨Nat.le_of_ble_eq_true rfl, Nat.le_of_ble_eq_true rfl⟩ rfl hk0 ⟨_, _, rfl⟩ (by decide) rfl (Nat.le_of_ble_eq_true rfl) (mX7_distanceOf l D cy kd ln rh _ a0 0 x2 x3 v16 1 M22 hk0 h) dX7_promotions_91 (fun c27 M26 g28 h => ?_)
              have h := h g28
              refine q_iload_n C 2 rfl rfl dX7_promotions_94 ?_
              refine q_iconst C dX7_promotions_95 ?_
              refine q_isub C dX7_promotions_96 ?_
              obtain ⟨r29, h⟩ := h
              refine q_icmp_eq (tgt := 116) C g28 r29 (by decide) dX7_promotions_97 (fun b30 => ?_) (fun b30 => ?_)
              · have h := h.1 b30
                refine q_lv (lv' := [(0, .ref (gad a0)), (1, .int (gI a1)), (2, .int (gI x2)), (3, .int (gI x3)), (4, .int (gI x4))]) [1, 2, 3, 4, 5] rfl ?_
                exact t116 k2 hk2_ k12 hk12_ (wX7_promotions_33 kd ln post a0 a1 k2 k12 n) hk33_ x2 x3 x4 M26 h
              · have h := h.2 b30
                refine q_aload_n C 1 rfl rfl dX7_promotions_100 ?_
                refine q_iconst C dX7_promotions_101 ?_
                refine q_iload_n C 3 rfl rfl dX7_promotions_102 ?_
                refine q_iload_n C 4 rfl rfl dX7_promotions_103 ?_
                refine q_iload C 0 rfl dX7_promotions_104 ?_
                refine q_iconst C dX7_promotions_106 ?_
                refine q_callVI (As := [.int (gI 1), .int (gI x2), .int (gI x3), .int (gI v16), .int (gI 1)]) (st := []) C vX7_123 kX7_distanceOf ⟨Nat.le_of_ble_eq_true rfl, Nat.le_of_ble_eq_true rfl⟩ ⟨Nat.le_of_ble_eq_true rfl, Nat.le_of_ble_eq_true rfl⟩ rfl hk0 ⟨_, _, rfl⟩ (by decide) rfl (Nat.le_of_ble_eq_true rfl) (mX7_distanceOf l D cy kd ln rh _ a0 1 x2 x3 v16 1 M26 hk0 h) dX7_promotions_107 (fun c32 M31 g33 h => ?_)
                have h := h g33
                refine q_iload_n C 2 rfl rfl dX7_promotions_110 ?_
                refine q_iconst C dX7_promotions_111 ?_
                refine q_isub C dX7_promotions_112 ?_
                refine q_icmp_ne (tgt := 127) C g33 r29 (by decide) dX7_promotions_113 (fun b34 => ?_) (fun b34 => ?_)
                · have h := h.1 b34
                  refine q_lv (lv' := [(0, .ref (gad a0)), (1, .int (gI a1)), (2, .int (gI x2)), (3, .int (gI x3)), (4, .int (gI x4))]) [1, 2, 3, 4, 5] rfl ?_
                  exact t127 k2 hk2_ k12 hk12_ (wX7_promotions_33 kd ln post a0 a1 k2 k12 n) hk33_ x2 x3 x4 M31 h
                · have h := h.2 b34
                  refine q_lv (lv' := [(0, .ref (gad a0)), (1, .int (gI a1)), (2, .int (gI x2)), (3, .int (gI x3)), (4, .int (gI x4))]) [1, 2, 3, 4, 5] rfl ?_
                  exact t116 k2 hk2_ k12 hk12_ (wX7_promotions_33 kd ln post a0 a1 k2 k12 n) hk33_ x2 x3 x4 M31 h
            · have h := h.2 b25
              refine q_goto (tgt := 127) C (by decide) dX7_promotions_81 ?_
              refine q_lv (lv' := [(0, .ref (gad a0)), (1, .int (gI a1)), (2, .int (gI x2)), (3, .int (gI x3)), (4, .int (gI x4))]) [1, 2, 3, 4, 5] rfl ?_
              exact t127 k2 hk2_ k12 hk12_ (wX7_promotions_33 kd ln post a0 a1 k2 k12 n) hk33_ x2 x3 x4 M22 h
  have t12 : ∀ (k2 : Int → gM → Prop), (∀ (x2 : Int), ∀ (M : gM), k2 x2 M → gW p l e (gRm 5 125) s m args below meth c D cy A H0 Q 6 kd ln rh 0 0 M 2 [(0, .ref (gad a0)), (1, .int (gI a1)), (2, .int (gI x2))] []) → ∀ (n : Nat) (x2 : Int) (x3 : Int) (M : gM), wX7_promotions_12 kd ln post a0 a1 k2 n x2 x3 M → gW p l e (gRm 5 125) s m args below meth c D cy A H0 Q 6 kd ln rh 0 0 M 12 [(0, .ref (gad a0)), (1, .int (gI a1)), (2, .int (gI x2)), (3, .int (gI x3))] [] := by
    intro k2 hk2_
    intro n
    induction n with
    | zero => intro x2 x3 M h; exact absurd h (by simp [wX7_promotions_12])
    | succ n ih =>
      intro x2 x3 M h
      have hk12_ := ih
      rw [wX7_promotions_12] at h
      refine q_iload_n C 3 rfl rfl dX7_promotions_12 ?_
      refine q_aload_n C 0 rfl rfl dX7_promotions_13 ?_
      refine q_get (v := .int (gI (M a0 2 (-1)))) C fX7_13 hk0 rfl dX7_promotions_14 (fun g4 => ?_)
      have h := h g4
      obtain ⟨r5, h⟩ := h
      refine q_icmp_ge (tgt := 139) C r5 g4 (by decide) dX7_promotions_17 (fun b6 => ?_) (fun b6 => ?_)
      · have h := h.1 b6
        refine q_iinc (lv' := [(2, .int (gI (x2 + 1))), (0, .ref (gad a0)), (1, .int (gI a1)), (3, .int (gI x3))]) C 2 rfl (by decide) rfl dX7_promotions_139 ?_
        refine q_goto (tgt := 2) C (by decide) dX7_promotions_142 ?_
        refine q_lv (lv' := [(0, .ref (gad a0)), (1, .int (gI a1)), (2, .int (gI (x2 + 1)))]) [1, 2, 0] rfl ?_
        exact hk2_ (x2 + 1) M h
      · have h := h.2 b6
        refine q_aload_n C 0 rfl rfl dX7_promotions_20 ?_
        refine q_get (v := .int (gI (M a0 2 (-1)))) C fX7_13 hk0 rfl dX7_promotions_21 (fun g7 => ?_)
        refine q_iconst C dX7_promotions_24 ?_
        refine q_aload_n C 0 rfl rfl dX7_promotions_25 ?_
        refine q_get (v := .int (gI (M a0 1 (-1)))) C fX7_7 hk0 rfl dX7_promotions_26 (fun g8 => ?_)
        have h := h g8
        refine q_imul C dX7_promotions_29 ?_
        refine q_isub C dX7_promotions_30 ?_
        refine q_topi (fun v9 ev9 => ?_)
        have h := h v9 ev9
        refine q_istore (lv' := [(4, .int (gI v9)), (0, .ref (gad a0)), (1, .int (gI a1)), (2, .int (gI x2)), (3, .int (gI x3))]) C (by decide) rfl dX7_promotions_31 ?_
        refine q_lv (lv' := [(0, .ref (gad a0)), (1, .int (gI a1)), (2, .int (gI x2)), (3, .int (gI x3)), (4, .int (gI v9))]) [1, 2, 3, 4, 0] rfl ?_
        obtain ⟨j33, h⟩ := h
        exact t33 k2 hk2_ (wX7_promotions_12 kd ln post a0 a1 k2 n) hk12_ j33 x2 x3 v9 M h
  have t2 : ∀ (n : Nat) (x2 : Int) (M : gM), wX7_promotions_2 kd ln post a0 a1 n x2 M → gW p l e (gRm 5 125) s m args below meth c D cy A H0 Q 6 kd ln rh 0 0 M 2 [(0, .ref (gad a0)), (1, .int (gI a1)), (2, .int (gI x2))] [] := by
    intro n
    induction n with
    | zero => intro x2 M h; exact absurd h (by simp [wX7_promotions_2])
    | succ n ih =>
      intro x2 M h
      have hk2_ := ih
      rw [wX7_promotions_2] at h
      refine q_iload_n C 2 rfl rfl dX7_promotions_2 ?_
      refine q_aload_n C 0 rfl rfl dX7_promotions_3 ?_
      refine q_get (v := .int (gI (M a0 2 (-1)))) C fX7_13 hk0 rfl dX7_promotions_4 (fun g1 => ?_)
      have h := h g1
      obtain ⟨r2, h⟩ := h
      refine q_icmp_ge (tgt := 145) C r2 g1 (by decide) dX7_promotions_7 (fun b3 => ?_) (fun b3 => ?_)
      · have h := h.1 b3
        exact hret M _ _ dX7_promotions_145 h
      · have h := h.2 b3
        refine q_iconst C dX7_promotions_10 ?_
        refine q_istore_n (lv' := [(3, .int (gI 0)), (0, .ref (gad a0)), (1, .int (gI a1)), (2, .int (gI x2))]) C rfl (by decide) rfl dX7_promotions_11 ?_
        refine q_lv (lv' := [(0, .ref (gad a0)), (1, .int (gI a1)), (2, .int (gI x2)), (3, .int (gI 0))]) [1, 2, 3, 0] rfl ?_
        obtain ⟨j12, h⟩ := h
        exact t12 (wX7_promotions_2 kd ln post a0 a1 n) hk2_ j12 x2 0 M h
  unfold wX7_promotions at h
  refine q_iconst C dX7_promotions_0 ?_
  refine q_istore_n (lv' := [(2, .int (gI 0)), (0, .ref (gad a0)), (1, .int (gI a1))]) C rfl (by decide) rfl dX7_promotions_1 ?_
  refine q_lv (lv' := [(0, .ref (gad a0)), (1, .int (gI a1)), (2, .int (gI 0))]) [1, 2, 0] rfl ?_
  obtain ⟨j2, h⟩ := h
  exact t2  j2 0 M h
set_option maxHeartbeats 4000000 in
set_option maxRecDepth 100000 in
theorem mX7_layers (l : Launch) (D : va_G) (cy : Nat → ClassId) (kd : gKd) (ln : gLn) (rh : gRh) (post : gM → Prop) (a0 : Int) (a1 : Int) (M : gM) (hk0 : kd a0 = 7) (h : wX7_layers kd ln post a0 a1 M) : gMV l D cy yX7_layers cX7_layers 6 8 208 [.ref (gad a0), .int (gI a1)] kd ln rh M post := by
  refine gMV_of (own := RX7) (by decide) rfl (Nat.le_of_ble_eq_true rfl) ?_
  intro p e s m args below meth c A H0 Q C hret
  have t135 : ∀ (k44 : Int → gM → Prop), (∀ (x3 : Int), ∀ (M : gM), k44 x3 M → gW p l e (gRm 8 208) s m args below meth c D cy A H0 Q 6 kd ln rh 0 0 M 44 [(0, .ref (gad a0)), (1, .int (gI a1)), (3, .int (gI x3))] []) → ∀ (k55 : Int → Int → gM → Prop), (∀ (x3 : Int), ∀ (x4 : Int), ∀ (M : gM), k55 x3 x4 M → gW p l e (gRm 8 208) s m args below meth c D cy A H0 Q 6 kd ln rh 0 0 M 55 [(0, .ref (gad a0)), (1, .int (gI a1)), (3, .int (gI x3)), (4, .int (gI x4))] []) → ∀ (k67 : Int → Int → Int → gM → Prop), (∀ (x3 : Int), ∀ (x4 : Int), ∀ (x5 : Int), ∀ (M : gM), k67 x3 x4 x5 M → gW p l e (gRm 8 208) s m args below meth c D cy A H0 Q 6 kd ln rh 0 0 M 67 [(0, .ref (gad a0)), (1, .int (gI a1)), (3, .int (gI x3)), (4, .int (gI x4)), (5, .int (gI x5))] []) → ∀ (x3 : Int) (x4 : Int) (x5 : Int) (M : gM), wX7_layers_135 kd ln post a0 a1 k44 k55 k67 x3 x4 x5 M → gW p l e (gRm 8 208) s m args below meth c D cy A H0 Q 6 kd ln rh 0 0 M 135 [(0, .ref (gad a0)), (1, .int (gI a1)), (3, .int (gI x3)), (4, .int (gI x4)), (5, .int (gI x5))] [] := by
    intro k44 hk44_ k55 hk55_ k67 hk67_ x3 x4 x5 M h
    unfold wX7_layers_135 at h
    refine q_iinc (lv' := [(5, .int (gI (x5 + 1))), (0, .ref (gad a0)), (1, .int (gI a1)), (3, .int (gI x3)), (4, .int (gI x4))]) C 4 rfl (by decide) rfl dX7_layers_135 ?_
    refine q_goto (tgt := 67) C (by decide) dX7_layers_138 ?_
    refine q_lv (lv' := [(0, .ref (gad a0)), (1, .int (gI a1)), (3, .int (gI x3)), (4, .int (gI x4)), (5, .int (gI (x5 + 1)))]) [1, 2, 3, 4, 0] rfl ?_
    exact hk67_ x3 x4 (x5 + 1) M h
  have t67 : ∀ (k44 : Int → gM → Prop), (∀ (x3 : Int), ∀ (M : gM), k44 x3 M → gW p l e (gRm 8 208) s m args below meth c D cy A H0 Q 6 kd ln rh 0 0 M 44 [(0, .ref (gad a0)), (1, .int (gI a1)), (3, .int (gI x3))] []) → ∀ (k55 : Int → Int → gM → Prop), (∀ (x3 : Int), ∀ (x4 : Int), ∀ (M : gM), k55 x3 x4 M → gW p l e (gRm 8 208) s m args below meth c D cy A H0 Q 6 kd ln rh 0 0 M 55 [(0, .ref (gad a0)), (1, .int (gI a1)), (3, .int (gI x3)), (4, .int (gI x4))] []) → ∀ (n : Nat) (x3 : Int) (x4 : Int) (x5 : Int) (M : gM), wX7_layers_67 kd ln post a0 a1 k44 k55 n x3 x4 x5 M → gW p l e (gRm 8 208) s m args below meth c D cy A H0 Q 6 kd ln rh 0 0 M 67 [(0, .ref (gad a0)), (1, .int (gI a1)), (3, .int (gI x3)), (4, .int (gI x4)), (5, .int (gI x5))] [] := by
    intro k44 hk44_ k55 hk55_
    intro n
    induction n with
    | zero => intro x3 x4 x5 M h; exact absurd h (by simp [wX7_layers_67])
    | succ n ih =>
      intro x3 x4 x5 M h
      have hk67_ := ih
      rw [wX7_layers_67] at h
      refine q_iload C 4 rfl dX7_layers_67 ?_
      refine q_aload_n C 0 rfl rfl dX7_layers_69 ?_
      refine q_get (v := .int (gI (M a0 2 (-1)))) C fX7_13 hk0 rfl dX7_layers_70 (fun g17 => ?_)
      have h := h g17
      obtain ⟨r18, h⟩ := h
      refine q_icmp_ge (tgt := 141) C r18 g17 (by decide) dX7_layers_73 (fun b19 => ?_) (fun b19 => ?_)
      · have h := h.1 b19
        refine q_iinc (lv' := [(4, .int (gI (x4 + 1))), (0, .ref (gad a0)), (1, .int (gI a1)), (3, .int (gI x3)), (5, .int (gI x5))]) C 3 rfl (by decide) rfl dX7_layers_141 ?_
        refine q_goto (tgt := 55) C (by decide) dX7_layers_144 ?_
        refine q_lv (lv' := [(0, .ref (gad a0)), (1, .int (gI a1)), (3, .int (gI x3)), (4, .int (gI (x4 + 1)))]) [1, 2, 3, 0] rfl ?_
        exact hk55_ x3 (x4 + 1) M h
      · have h := h.2 b19
        refine q_aload_n C 0 rfl rfl dX7_layers_76 ?_
        refine q_iload_n C 1 rfl rfl dX7_layers_77 ?_
        refine q_iload_n C 2 rfl rfl dX7_layers_78 ?_
        refine q_iload C 3 rfl dX7_layers_79 ?_
        refine q_iload C 4 rfl dX7_layers_81 ?_
        refine q_iconst C dX7_layers_83 ?_
        refine q_callVI (As := [.int (gI a1), .int (gI x3), .int (gI x4), .int (gI x5), .int (gI 1)]) (st := []) C vX7_107 kX7_legal ⟨Nat.le_of_ble_eq_true rfl, Nat.le_of_ble_eq_true rfl⟩ ⟨Nat.le_of_ble_eq_true rfl, Nat.le_of_ble_eq_true rfl⟩ rfl hk0 ⟨_, _, rfl⟩ (by decide) rfl (Nat.le_of_ble_eq_true rfl) (mX7_legal l D cy kd ln rh _ a0 a1 x3 x4 x5 1 M hk0 h) dX7_layers_84 (fun c21 M20 g22 h => ?_)
        have h := h g22
        refine q_if_eq (tgt := 135) C g22 (by decide) dX7_layers_87 (fun b23 => ?_) (fun b23 => ?_)
        · have h := h.1 b23
          exact t135 k44 hk44_ k55 hk55_ (wX7_layers_67 kd ln post a0 a1 k44 k55 n) hk67_ x3 x4 x5 M20 h
        · have h := h.2 b23
          refine q_aload_n C 0 rfl rfl dX7_layers_90 ?_
          refine q_iload_n C 1 rfl rfl dX7_layers_91 ?_
          refine q_iload_n C 2 rfl rfl dX7_layers_92 ?_
          refine q_iload C 3 rfl dX7_layers_93 ?_
          refine q_iload C 4 rfl dX7_layers_95 ?_
          refine q_iload C 3 rfl dX7_layers_97 ?_
          refine q_callVI (As := [.int (gI a1), .int (gI x3), .int (gI x4), .int (gI x5), .int (gI x4)]) (st := []) C vX7_100 kX7_attacks ⟨Nat.le_of_ble_eq_true rfl, Nat.le_of_ble_eq_true rfl⟩ ⟨Nat.le_of_ble_eq_true rfl, Nat.le_of_ble_eq_true rfl⟩ rfl hk0 ⟨_, _, rfl⟩ (by decide) rfl (Nat.le_of_ble_eq_true rfl) (mX7_attacks l D cy kd ln rh _ a0 a1 x3 x4 x5 x4 M20 hk0 h) dX7_layers_99 (fun c25 M24 g26 h => ?_)
          have h := h g26
          refine q_if_eq (tgt := 135) C g26 (by decide) dX7_layers_102 (fun b27 => ?_) (fun b27 => ?_)
          · have h := h.1 b27
            exact t135 k44 hk44_ k55 hk55_ (wX7_layers_67 kd ln post a0 a1 k44 k55 n) hk67_ x3 x4 x5 M24 h
          · have h := h.2 b27
            refine q_aload_n C 0 rfl rfl dX7_layers_105 ?_
            refine q_iload_n C 1 rfl rfl dX7_layers_106 ?_
            refine q_iload_n C 2 rfl rfl dX7_layers_107 ?_
            refine q_iload C 3 rfl dX7_layers_108 ?_
            refine q_iload C 4 rfl dX7_layers_110 ?_
            refine q_iconst C dX7_layers_112 ?_
            refine q_callVV (As := [.int (gI a1), .int (gI x3), .int (gI x4), .int (gI x5), .int (gI 1)]) (st := []) C vX7_138 kX7_find ⟨Nat.le_of_ble_eq_true rfl, Nat.le_of_ble_eq_true rfl⟩ ⟨Nat.le_of_ble_eq_true rfl, Nat.le_of_ble_eq_true rfl⟩ rfl hk0 ⟨_, _, rfl⟩ (by decide) rfl (Nat.le_of_ble_eq_true rfl) (mX7_find l D cy kd ln rh _ a0 a1 x3 x4 x5 1 M24 hk0 h) dX7_layers_113 (fun M28 h => ?_)
            refine q_aload_n C 0 rfl rfl dX7_layers_116 ?_
            refine q_get (v := .int (gI (M28 a0 12 (-1)))) C fX7_104 hk0 rfl dX7_layers_117 (fun g31 => ?_)
            have h := h g31
            refine q_if_ne (tgt := 135) C g31 (by decide) dX7_layers_120 (fun b32 => ?_) (fun b32 => ?_)
            · have h := h.1 b32
              exact t135 k44 hk44_ k55 hk55_ (wX7_layers_67 kd ln post a0 a1 k44 k55 n) hk67_ x3 x4 x5 M28 h
            · have h := h.2 b32
              refine q_aload_n C 0 rfl rfl dX7_layers_123 ?_
              refine q_iload_n C 1 rfl rfl dX7_layers_124 ?_
              refine q_iload_n C 2 rfl rfl dX7_layers_125 ?_
              refine q_iload C 3 rfl dX7_layers_126 ?_
              refine q_iload C 4 rfl dX7_layers_128 ?_
              refine q_iconst C dX7_layers_130 ?_
              refine q_iconst C dX7_layers_131 ?_
              refine q_callVV (As := [.int (gI a1), .int (gI x3), .int (gI x4), .int (gI x5), .int (gI 1), .int (gI 0)]) (st := []) C vX7_142 kX7_decide ⟨Nat.le_of_ble_eq_true rfl, Nat.le_of_ble_eq_true rfl⟩ ⟨Nat.le_of_ble_eq_true rfl, Nat.le_of_ble_eq_true rfl⟩ rfl hk0 ⟨_, _, rfl⟩ (by decide) rfl (Nat.le_of_ble_eq_true rfl) (mX7_decide l D cy kd ln rh _ a0 a1 x3 x4 x5 1 0 M28 hk0 h) dX7_layers_132 (fun M33 h => ?_)
              exact t135 k44 hk44_ k55 hk55_ (wX7_layers_67 kd ln post a0 a1 k44 k55 n) hk67_ x3 x4 x5 M33 h
  have t55 : ∀ (k44 : Int → gM → Prop), (∀ (x3 : Int), ∀ (M : gM), k44 x3 M → gW p l e (gRm 8 208) s m args below meth c D cy A H0 Q 6 kd ln rh 0 0 M 44 [(0, .ref (gad a0)), (1, .int (gI a1)), (3, .int (gI x3))] []) → ∀ (n : Nat) (x3 : Int) (x4 : Int) (M : gM), wX7_layers_55 kd ln post a0 a1 k44 n x3 x4 M → gW p l e (gRm 8 208) s m args below meth c D cy A H0 Q 6 kd ln rh 0 0 M 55 [(0, .ref (gad a0)), (1, .int (gI a1)), (3, .int (gI x3)), (4, .int (gI x4))] [] := by
    intro k44 hk44_
    intro n
    induction n with
    | zero => intro x3 x4 M h; exact absurd h (by simp [wX7_layers_55])
    | succ n ih =>
      intro x3 x4 M h
      have hk55_ := ih
      rw [wX7_layers_55] at h
      refine q_iload C 3 rfl dX7_layers_55 ?_
      refine q_aload_n C 0 rfl rfl dX7_layers_57 ?_
      refine q_get (v := .int (gI (M a0 2 (-1)))) C fX7_13 hk0 rfl dX7_layers_58 (fun g14 => ?_)
      have h := h g14
      obtain ⟨r15, h⟩ := h
      refine q_icmp_ge (tgt := 147) C r15 g14 (by decide) dX7_layers_61 (fun b16 => ?_) (fun b16 => ?_)
      · have h := h.1 b16
        refine q_iinc (lv' := [(3, .int (gI (x3 + 1))), (0, .ref (gad a0)), (1, .int (gI a1)), (4, .int (gI x4))]) C 2 rfl (by decide) rfl dX7_layers_147 ?_
        refine q_goto (tgt := 44) C (by decide) dX7_layers_150 ?_
        refine q_lv (lv' := [(0, .ref (gad a0)), (1, .int (gI a1)), (3, .int (gI (x3 + 1)))]) [1, 2, 0] rfl ?_
        exact hk44_ (x3 + 1) M h
      · have h := h.2 b16
        refine q_iconst C dX7_layers_64 ?_
        refine q_istore (lv' := [(5, .int (gI 0)), (0, .ref (gad a0)), (1, .int (gI a1)), (3, .int (gI x3)), (4, .int (gI x4))]) C (by decide) rfl dX7_layers_65 ?_
        refine q_lv (lv' := [(0, .ref (gad a0)), (1, .int (gI a1)), (3, .int (gI x3)), (4, .int (gI x4)), (5, .int (gI 0))]) [1, 2, 3, 4, 0] rfl ?_
        obtain ⟨j67, h⟩ := h
        exact t67 k44 hk44_ (wX7_layers_55 kd ln post a0 a1 k44 n) hk55_ j67 x3 x4 0 M h
  have t220 : ∀ (k158 : Int → Int → gM → Prop), (∀ (x3 : Int), ∀ (x4 : Int), ∀ (M : gM), k158 x3 x4 M → gW p l e (gRm 8 208) s m args below meth c D cy A H0 Q 6 kd ln rh 0 0 M 158 [(0, .ref (gad a0)), (1, .int (gI a1)), (3, .int (gI x3)), (4, .int (gI x4))] []) → ∀ (x4 : Int) (y0 : Int) (M : gM), wX7_layers_220 kd ln post a0 a1 k158 x4 y0 M → gW p l e (gRm 8 208) s m args below meth c D cy A H0 Q 6 kd ln rh 0 0 M 220 [(0, .ref (gad a0)), (1, .int (gI a1)), (4, .int (gI x4))] [.int (gI y0)] := by
    intro k158 hk158_ x4 y0 M h
    unfold wX7_layers_220 at h
    refine q_istore_n (lv' := [(3, .int (gI y0)), (0, .ref (gad a0)), (1, .int (gI a1)), (4, .int (gI x4))]) C rfl (by decide) rfl dX7_layers_220 ?_
    refine q_iinc (lv' := [(4, .int (gI (x4 + 1))), (3, .int (gI y0)), (0, .ref (gad a0)), (1, .int (gI a1))]) C 3 rfl (by decide) rfl dX7_layers_221 ?_
    refine q_goto (tgt := 158) C (by decide) dX7_layers_224 ?_
    refine q_lv (lv' := [(0, .ref (gad a0)), (1, .int (gI a1)), (3, .int (gI y0)), (4, .int (gI (x4 + 1)))]) [2, 3, 1, 0] rfl ?_
    exact hk158_ y0 (x4 + 1) M h
  have t206 : ∀ (k158 : Int → Int → gM → Prop), (∀ (x3 : Int), ∀ (x4 : Int), ∀ (M : gM), k158 x3 x4 M → gW p l e (gRm 8 208) s m args below meth c D cy A H0 Q 6 kd ln rh 0 0 M 158 [(0, .ref (gad a0)), (1, .int (gI a1)), (3, .int (gI x3)), (4, .int (gI x4))] []) → ∀ (x3 : Int) (x4 : Int) (M : gM), wX7_layers_206 kd ln post a0 a1 k158 x3 x4 M → gW p l e (gRm 8 208) s m args below meth c D cy A H0 Q 6 kd ln rh 0 0 M 206 [(0, .ref (gad a0)), (1, .int (gI a1)), (3, .int (gI x3)), (4, .int (gI x4))] [] := by
    intro k158 hk158_ x3 x4 M h
    unfold wX7_layers_206 at h
    refine q_aload_n C 0 rfl rfl dX7_layers_206 ?_
    refine q_get (v := .int (gI (M a0 20 (-1)))) C fX7_134 hk0 rfl dX7_layers_207 (fun g53 => ?_)
    have h := h g53
    refine q_if_eq (tgt := 217) C g53 (by decide) dX7_layers_210 (fun b54 => ?_) (fun b54 => ?_)
    · have h := h.1 b54
      refine q_iload_n C 2 rfl rfl dX7_layers_217 ?_
      refine q_iconst C dX7_layers_218 ?_
      refine q_iadd C dX7_layers_219 ?_
      refine q_lv (lv' := [(0, .ref (gad a0)), (1, .int (gI a1)), (4, .int (gI x4))]) [0, 1, 3] rfl ?_
      exact t220 k158 hk158_ x4 (x3 + 1) M h
    · have h := h.2 b54
      refine q_iconst C dX7_layers_213 ?_
      refine q_goto (tgt := 220) C (by decide) dX7_layers_214 ?_
      refine q_lv (lv' := [(0, .ref (gad a0)), (1, .int (gI a1)), (4, .int (gI x4))]) [0, 1, 3] rfl ?_
      exact t220 k158 hk158_ x4 0 M h
  have t175 : ∀ (k158 : Int → Int → gM → Prop), (∀ (x3 : Int), ∀ (x4 : Int), ∀ (M : gM), k158 x3 x4 M → gW p l e (gRm 8 208) s m args below meth c D cy A H0 Q 6 kd ln rh 0 0 M 158 [(0, .ref (gad a0)), (1, .int (gI a1)), (3, .int (gI x3)), (4, .int (gI x4))] []) → ∀ (x3 : Int) (x4 : Int) (M : gM), wX7_layers_175 kd ln post a0 a1 k158 x3 x4 M → gW p l e (gRm 8 208) s m args below meth c D cy A H0 Q 6 kd ln rh 0 0 M 175 [(0, .ref (gad a0)), (1, .int (gI a1)), (3, .int (gI x3)), (4, .int (gI x4))] [] := by
    intro k158 hk158_ x3 x4 M h
    unfold wX7_layers_175 at h
    refine q_aload_n C 0 rfl rfl dX7_layers_175 ?_
    refine q_iconst C dX7_layers_176 ?_
    refine q_put (x := 0) (ty := .boolean) C fX7_134 hk0 (fun _ _ _ q => by cases q; rfl) (congrArg (fun z => Value.int (gI z)) gu_s) rfl rfl (show rng 0 by decide) (fun j q => absurd (show (0 : Nat) = j + 3 from q) (by omega)) dX7_layers_177 ?_
    refine q_aload_n C 0 rfl rfl dX7_layers_180 ?_
    refine q_iload_n C 1 rfl rfl dX7_layers_181 ?_
    refine q_iload C 3 rfl dX7_layers_182 ?_
    refine q_callVV (As := [.int (gI a1), .int (gI x4)]) (st := []) C vX7_146 kX7_layer ⟨Nat.le_of_ble_eq_true rfl, Nat.le_of_ble_eq_true rfl⟩ ⟨Nat.le_of_ble_eq_true rfl, Nat.le_of_ble_eq_true rfl⟩ rfl hk0 ⟨_, _, rfl⟩ (by decide) rfl (Nat.le_of_ble_eq_true rfl) (mX7_layer l D cy kd ln rh _ a0 a1 x4 (gu M a0 20 (-1) 0) hk0 h) dX7_layers_184 (fun M42 h => ?_)
    refine q_iload_n C 1 rfl rfl dX7_layers_187 ?_
    refine q_iconst C dX7_layers_188 ?_
    obtain ⟨r45, h⟩ := h
    refine q_icmp_ne (tgt := 206) C r45 (show rng 2 by decide) (by decide) dX7_layers_189 (fun b46 => ?_) (fun b46 => ?_)
    · have h := h.1 b46
      exact t206 k158 hk158_ x3 x4 M42 h
    · have h := h.2 b46
      refine q_iload C 3 rfl dX7_layers_192 ?_
      refine q_iconst C dX7_layers_194 ?_
      obtain ⟨r47, h⟩ := h
      refine q_irem C ⟨r47.1, r47.2, by decide, by decide⟩ dX7_layers_195 ?_
      refine q_iconst C dX7_layers_196 ?_
      obtain ⟨r48, h⟩ := h
      refine q_icmp_ne (tgt := 206) C r48 (show rng 1 by decide) (by decide) dX7_layers_197 (fun b49 => ?_) (fun b49 => ?_)
      · have h := h.1 b49
        exact t206 k158 hk158_ x3 x4 M42 h
      · have h := h.2 b49
        refine q_aload_n C 0 rfl rfl dX7_layers_200 ?_
        refine q_iload C 3 rfl dX7_layers_201 ?_
        refine q_callVV (As := [.int (gI x4)]) (st := []) C vX7_150 kX7_promotions ⟨Nat.le_of_ble_eq_true rfl, Nat.le_of_ble_eq_true rfl⟩ ⟨Nat.le_of_ble_eq_true rfl, Nat.le_of_ble_eq_true rfl⟩ rfl hk0 ⟨_, _, rfl⟩ (by decide) rfl (Nat.le_of_ble_eq_true rfl) (mX7_promotions l D cy kd ln rh _ a0 x4 M42 hk0 h) dX7_layers_203 (fun M50 h => ?_)
        exact t206 k158 hk158_ x3 x4 M50 h
  have t158 : ∀ (n : Nat) (x3 : Int) (x4 : Int) (M : gM), wX7_layers_158 kd ln post a0 a1 n x3 x4 M → gW p l e (gRm 8 208) s m args below meth c D cy A H0 Q 6 kd ln rh 0 0 M 158 [(0, .ref (gad a0)), (1, .int (gI a1)), (3, .int (gI x3)), (4, .int (gI x4))] [] := by
    intro n
    induction n with
    | zero => intro x3 x4 M h; exact absurd h (by simp [wX7_layers_158])
    | succ n ih =>
      intro x3 x4 M h
      have hk158_ := ih
      rw [wX7_layers_158] at h
      refine q_iload_n C 2 rfl rfl dX7_layers_158 ?_
      refine q_iconst C dX7_layers_159 ?_
      obtain ⟨r36, h⟩ := h
      refine q_icmp_lt (tgt := 175) C r36 (show rng 2 by decide) (by decide) dX7_layers_160 (fun b37 => ?_) (fun b37 => ?_)
      · have h := h.1 b37
        exact t175 (wX7_layers_158 kd ln post a0 a1 n) hk158_ x3 x4 M h
      · have h := h.2 b37
        refine q_iload C 3 rfl dX7_layers_163 ?_
        refine q_bipush C (by decide) dX7_layers_165 ?_
        obtain ⟨r38, h⟩ := h
        refine q_icmp_ge (tgt := 227) C r38 (show rng 100 by decide) (by decide) dX7_layers_167 (fun b39 => ?_) (fun b39 => ?_)
        · have h := h.1 b39
          exact hret M _ _ dX7_layers_227 h
        · have h := h.2 b39
          refine q_iload_n C 1 rfl rfl dX7_layers_170 ?_
          refine q_iconst C dX7_layers_171 ?_
          obtain ⟨r40, h⟩ := h
          refine q_icmp_ne (tgt := 227) C r40 (show rng 2 by decide) (by decide) dX7_layers_172 (fun b41 => ?_) (fun b41 => ?_)
          · have h := h.1 b41
            exact hret M _ _ dX7_layers_227 h
          · have h := h.2 b41
            exact t175 (wX7_layers_158 kd ln post a0 a1 n) hk158_ x3 x4 M h
  have t44 : ∀ (n : Nat) (x3 : Int) (M : gM), wX7_layers_44 kd ln post a0 a1 n x3 M → gW p l e (gRm 8 208) s m args below meth c D cy A H0 Q 6 kd ln rh 0 0 M 44 [(0, .ref (gad a0)), (1, .int (gI a1)), (3, .int (gI x3))] [] := by
    intro n
    induction n with
    | zero => intro x3 M h; exact absurd h (by simp [wX7_layers_44])
    | succ n ih =>
      intro x3 M h
      have hk44_ := ih
      rw [wX7_layers_44] at h
      refine q_iload_n C 2 rfl rfl dX7_layers_44 ?_
      refine q_aload_n C 0 rfl rfl dX7_layers_45 ?_
      refine q_get (v := .int (gI (M a0 2 (-1)))) C fX7_13 hk0 rfl dX7_layers_46 (fun g11 => ?_)
      have h := h g11
      obtain ⟨r12, h⟩ := h
      refine q_icmp_ge (tgt := 153) C r12 g11 (by decide) dX7_layers_49 (fun b13 => ?_) (fun b13 => ?_)
      · have h := h.1 b13
        refine q_iconst C dX7_layers_153 ?_
        refine q_istore_n (lv' := [(3, .int (gI 0)), (0, .ref (gad a0)), (1, .int (gI a1))]) C rfl (by decide) rfl dX7_layers_154 ?_
        refine q_iconst C dX7_layers_155 ?_
        refine q_istore (lv' := [(4, .int (gI 1)), (3, .int (gI 0)), (0, .ref (gad a0)), (1, .int (gI a1))]) C (by decide) rfl dX7_layers_156 ?_
        refine q_lv (lv' := [(0, .ref (gad a0)), (1, .int (gI a1)), (3, .int (gI 0)), (4, .int (gI 1))]) [2, 3, 1, 0] rfl ?_
        obtain ⟨j158, h⟩ := h
        exact t158  j158 0 1 M h
      · have h := h.2 b13
        refine q_iconst C dX7_layers_52 ?_
        refine q_istore (lv' := [(4, .int (gI 0)), (0, .ref (gad a0)), (1, .int (gI a1)), (3, .int (gI x3))]) C (by decide) rfl dX7_layers_53 ?_
        refine q_lv (lv' := [(0, .ref (gad a0)), (1, .int (gI a1)), (3, .int (gI x3)), (4, .int (gI 0))]) [1, 2, 3, 0] rfl ?_
        obtain ⟨j55, h⟩ := h
        exact t55 (wX7_layers_44 kd ln post a0 a1 n) hk44_ j55 x3 0 M h
  have t19 : ∀ (n : Nat) (x2 : Int) (x3 : Int) (M : gM), wX7_layers_19 kd ln post a0 a1 n x2 x3 M → gW p l e (gRm 8 208) s m args below meth c D cy A H0 Q 6 kd ln rh 0 0 M 19 [(0, .ref (gad a0)), (1, .int (gI a1)), (2, .int (gI x2)), (3, .int (gI x3))] [] := by
    intro n
    induction n with
    | zero => intro x2 x3 M h; exact absurd h (by simp [wX7_layers_19])
    | succ n ih =>
      intro x2 x3 M h
      have hk19_ := ih
      rw [wX7_layers_19] at h
      refine q_iload_n C 3 rfl rfl dX7_layers_19 ?_
      refine q_iload_n C 2 rfl rfl dX7_layers_20 ?_
      obtain ⟨r5, h⟩ := h
      obtain ⟨r6, h⟩ := h
      refine q_icmp_ge (tgt := 42) C r5 r6 (by decide) dX7_layers_21 (fun b7 => ?_) (fun b7 => ?_)
      · have h := h.1 b7
        refine q_iconst C dX7_layers_42 ?_
        refine q_istore_n (lv' := [(3, .int (gI 0)), (0, .ref (gad a0)), (1, .int (gI a1)), (2, .int (gI x2))]) C rfl (by decide) rfl dX7_layers_43 ?_
        refine q_lv (lv' := [(0, .ref (gad a0)), (1, .int (gI a1)), (3, .int (gI 0))]) [1, 2, 0] rfl ?_
        obtain ⟨j44, h⟩ := h
        exact t44  j44 0 M h
      · have h := h.2 b7
        refine q_aload_n C 0 rfl rfl dX7_layers_24 ?_
        obtain ⟨r8, h⟩ := h
        refine q_get (v := .ref (rh a0 4)) C fX7_21 hk0 (if_neg (Int.not_lt.mpr r8)) dX7_layers_25 (fun g9 => ?_)
        refine q_ldc (n := 524288) C nX7_118 (by decide) dX7_layers_28 ?_
        refine q_iload_n C 1 rfl rfl dX7_layers_30 ?_
        refine q_imul C dX7_layers_31 ?_
        refine q_iload_n C 3 rfl rfl dX7_layers_32 ?_
        refine q_iadd C dX7_layers_33 ?_
        refine q_iconst C dX7_layers_34 ?_
        obtain ⟨r10, h⟩ := h
        refine q_bast C hk0 rfl (rng8 (show (-128 : Int) ≤ 0 ∧ (0 : Int) < 128 by decide)) (show (-128 : Int) ≤ 0 ∧ (0 : Int) < 128 by decide) r10 dX7_layers_35 ?_
        refine q_iinc (lv' := [(3, .int (gI (x3 + 1))), (0, .ref (gad a0)), (1, .int (gI a1)), (2, .int (gI x2))]) C 3 rfl (by decide) rfl dX7_layers_36 ?_
        refine q_goto (tgt := 19) C (by decide) dX7_layers_39 ?_
        refine q_lv (lv' := [(0, .ref (gad a0)), (1, .int (gI a1)), (2, .int (gI x2)), (3, .int (gI (x3 + 1)))]) [1, 2, 3, 0] rfl ?_
        exact hk19_ x2 (x3 + 1) (gu M a0 4 ((524288 * a1) + x3) 0) h
  unfold wX7_layers at h
  refine q_iconst C dX7_layers_0 ?_
  refine q_aload_n C 0 rfl rfl dX7_layers_1 ?_
  refine q_get (v := .int (gI (M a0 2 (-1)))) C fX7_13 hk0 rfl dX7_layers_2 (fun g1 => ?_)
  have h := h g1
  refine q_imul C dX7_layers_5 ?_
  refine q_aload_n C 0 rfl rfl dX7_layers_6 ?_
  refine q_get (v := .int (gI (M a0 2 (-1)))) C fX7_13 hk0 rfl dX7_layers_7 (fun g2 => ?_)
  refine q_imul C dX7_layers_10 ?_
  refine q_aload_n C 0 rfl rfl dX7_layers_11 ?_
  refine q_get (v := .int (gI (M a0 2 (-1)))) C fX7_13 hk0 rfl dX7_layers_12 (fun g3 => ?_)
  refine q_imul C dX7_layers_15 ?_
  refine q_topi (fun v4 ev4 => ?_)
  have h := h v4 ev4
  refine q_istore_n (lv' := [(2, .int (gI v4)), (0, .ref (gad a0)), (1, .int (gI a1))]) C rfl (by decide) rfl dX7_layers_16 ?_
  refine q_iconst C dX7_layers_17 ?_
  refine q_istore_n (lv' := [(3, .int (gI 0)), (2, .int (gI v4)), (0, .ref (gad a0)), (1, .int (gI a1))]) C rfl (by decide) rfl dX7_layers_18 ?_
  refine q_lv (lv' := [(0, .ref (gad a0)), (1, .int (gI a1)), (2, .int (gI v4)), (3, .int (gI 0))]) [2, 3, 1, 0] rfl ?_
  obtain ⟨j19, h⟩ := h
  exact t19  j19 v4 0 M h
set_option maxHeartbeats 4000000 in
set_option maxRecDepth 100000 in
theorem mX7_image (l : Launch) (D : va_G) (cy : Nat → ClassId) (kd : gKd) (ln : gLn) (rh : gRh) (post : Int → gM → Prop) (a0 : Int) (a1 : Int) (a2 : Int) (M : gM) (hk0 : kd a0 = 7) (h : wX7_image kd ln post a0 a1 a2 M) : gMI l D cy yX7_image cX7_image 6 .int 0 0 [.ref (gad a0), .int (gI a1), .int (gI a2)] kd ln rh M post := by
  refine gMI_of (own := RX7) (by decide) rfl (Nat.le_of_ble_eq_true rfl) ?_
  intro p e s m args below meth c A H0 Q C hret
  have t70 : ∀ (x3 : Int) (y0 : Int) (M : gM), wX7_image_70 kd ln post a0 a1 a2 x3 y0 M → gW p l e (gRm 0 0) s m args below meth c D cy A H0 Q 6 kd ln rh 0 0 M 70 [(0, .ref (gad a0)), (3, .int (gI x3))] [.int (gI y0)] := by
    intro  x3 y0 M h
    unfold wX7_image_70 at h
    refine q_istore (lv' := [(4, .int (gI y0)), (0, .ref (gad a0)), (3, .int (gI x3))]) C (by decide) rfl dX7_image_70 ?_
    refine q_aload_n C 1 rfl rfl dX7_image_72 ?_
    refine q_get (v := .int (gI (M a0 1 (-1)))) C fX7_7 hk0 rfl dX7_image_73 (fun g14 => ?_)
    have h := h g14
    refine q_iload C 0 rfl dX7_image_76 ?_
    refine q_imul C dX7_image_78 ?_
    refine q_iload_n C 2 rfl rfl dX7_image_79 ?_
    refine q_iadd C dX7_image_80 ?_
    obtain ⟨r15, h⟩ := h
    exact hret (((M a0 1 (-1)) * y0) + x3) M _ _ dX7_image_81 r15 h
  have t49 : ∀ (x4 : Int) (y0 : Int) (M : gM), wX7_image_49 kd ln post a0 a1 a2 x4 y0 M → gW p l e (gRm 0 0) s m args below meth c D cy A H0 Q 6 kd ln rh 0 0 M 49 [(0, .ref (gad a0)), (2, .int (gI a2)), (4, .int (gI x4))] [.int (gI y0)] := by
    intro  x4 y0 M h
    unfold wX7_image_49 at h
    refine q_istore_n (lv' := [(3, .int (gI y0)), (0, .ref (gad a0)), (2, .int (gI a2)), (4, .int (gI x4))]) C rfl (by decide) rfl dX7_image_49 ?_
    refine q_iload_n C 2 rfl rfl dX7_image_50 ?_
    refine q_iconst C dX7_image_51 ?_
    refine q_iand C dX7_image_52 ?_
    obtain ⟨r11, h⟩ := h
    refine q_if_eq (tgt := 68) C r11 (by decide) dX7_image_53 (fun b12 => ?_) (fun b12 => ?_)
    · have h := h.1 b12
      refine q_iload C 3 rfl dX7_image_68 ?_
      refine q_lv (lv' := [(0, .ref (gad a0)), (3, .int (gI y0))]) [1, 0] rfl ?_
      exact t70  y0 x4 M h
    · have h := h.2 b12
      refine q_aload_n C 1 rfl rfl dX7_image_56 ?_
      refine q_get (v := .int (gI (M a0 1 (-1)))) C fX7_7 hk0 rfl dX7_image_57 (fun g13 => ?_)
      have h := h g13
      refine q_iconst C dX7_image_60 ?_
      refine q_isub C dX7_image_61 ?_
      refine q_iload C 3 rfl dX7_image_62 ?_
      refine q_isub C dX7_image_64 ?_
      refine q_goto (tgt := 70) C (by decide) dX7_image_65 ?_
      refine q_lv (lv' := [(0, .ref (gad a0)), (3, .int (gI y0))]) [1, 0] rfl ?_
      exact t70  y0 (((M a0 1 (-1)) - 1) - x4) M h
  have t31 : ∀ (x3 : Int) (x4 : Int) (M : gM), wX7_image_31 kd ln post a0 a1 a2 x3 x4 M → gW p l e (gRm 0 0) s m args below meth c D cy A H0 Q 6 kd ln rh 0 0 M 31 [(0, .ref (gad a0)), (2, .int (gI a2)), (3, .int (gI x3)), (4, .int (gI x4))] [] := by
    intro  x3 x4 M h
    unfold wX7_image_31 at h
    refine q_iload_n C 1 rfl rfl dX7_image_31 ?_
    refine q_iconst C dX7_image_32 ?_
    refine q_iand C dX7_image_33 ?_
    obtain ⟨r8, h⟩ := h
    refine q_if_eq (tgt := 48) C r8 (by decide) dX7_image_34 (fun b9 => ?_) (fun b9 => ?_)
    · have h := h.1 b9
      refine q_iload_n C 2 rfl rfl dX7_image_48 ?_
      refine q_lv (lv' := [(0, .ref (gad a0)), (2, .int (gI a2)), (4, .int (gI x4))]) [0, 1, 3] rfl ?_
      exact t49  x4 x3 M h
    · have h := h.2 b9
      refine q_aload_n C 0 rfl rfl dX7_image_37 ?_
      refine q_get (v := .int (gI (M a0 1 (-1)))) C fX7_7 hk0 rfl dX7_image_38 (fun g10 => ?_)
      have h := h g10
      refine q_iconst C dX7_image_41 ?_
      refine q_isub C dX7_image_42 ?_
      refine q_iload_n C 2 rfl rfl dX7_image_43 ?_
      refine q_isub C dX7_image_44 ?_
      refine q_goto (tgt := 49) C (by decide) dX7_image_45 ?_
      refine q_lv (lv' := [(0, .ref (gad a0)), (2, .int (gI a2)), (4, .int (gI x4))]) [0, 1, 3] rfl ?_
      exact t49  x4 (((M a0 1 (-1)) - 1) - x3) M h
  unfold wX7_image at h
  refine q_iload_n C 1 rfl rfl dX7_image_0 ?_
  refine q_aload_n C 0 rfl rfl dX7_image_1 ?_
  refine q_get (v := .int (gI (M a0 1 (-1)))) C fX7_7 hk0 rfl dX7_image_2 (fun g1 => ?_)
  have h := h g1
  obtain ⟨r2, h⟩ := h
  refine q_irem C r2 dX7_image_5 ?_
  refine q_topi (fun v3 ev3 => ?_)
  have h := h v3 ev3
  refine q_istore_n (lv' := [(3, .int (gI v3)), (0, .ref (gad a0)), (1, .int (gI a1)), (2, .int (gI a2))]) C rfl (by decide) rfl dX7_image_6 ?_
  refine q_iload_n C 2 rfl rfl dX7_image_7 ?_
  refine q_aload_n C 1 rfl rfl dX7_image_8 ?_
  refine q_get (v := .int (gI (M a0 1 (-1)))) C fX7_7 hk0 rfl dX7_image_9 (fun g4 => ?_)
  refine q_idiv C r2 dX7_image_12 ?_
  refine q_topi (fun v5 ev5 => ?_)
  have h := h v5 ev5
  refine q_istore (lv' := [(4, .int (gI v5)), (3, .int (gI v3)), (0, .ref (gad a0)), (1, .int (gI a1)), (2, .int (gI a2))]) C (by decide) rfl dX7_image_13 ?_
  refine q_iload_n C 4 rfl rfl dX7_image_15 ?_
  refine q_iconst C dX7_image_16 ?_
  refine q_iand C dX7_image_17 ?_
  obtain ⟨r6, h⟩ := h
  refine q_if_eq (tgt := 31) C r6 (by decide) dX7_image_18 (fun b7 => ?_) (fun b7 => ?_)
  · have h := h.1 b7
    refine q_lv (lv' := [(0, .ref (gad a0)), (2, .int (gI a2)), (3, .int (gI v3)), (4, .int (gI v5))]) [2, 4, 1, 0] rfl ?_
    exact t31  v3 v5 M h
  · have h := h.2 b7
    refine q_iload_n C 1 rfl rfl dX7_image_21 ?_
    refine q_istore (lv' := [(5, .int (gI v3)), (4, .int (gI v5)), (3, .int (gI v3)), (0, .ref (gad a0)), (1, .int (gI a1)), (2, .int (gI a2))]) C (by decide) rfl dX7_image_22 ?_
    refine q_iload C 1 rfl dX7_image_24 ?_
    refine q_istore_n (lv' := [(3, .int (gI v5)), (5, .int (gI v3)), (4, .int (gI v5)), (0, .ref (gad a0)), (1, .int (gI a1)), (2, .int (gI a2))]) C rfl (by decide) rfl dX7_image_26 ?_
    refine q_iload C 1 rfl dX7_image_27 ?_
    refine q_istore (lv' := [(4, .int (gI v3)), (3, .int (gI v5)), (5, .int (gI v3)), (0, .ref (gad a0)), (1, .int (gI a1)), (2, .int (gI a2))]) C (by decide) rfl dX7_image_29 ?_
    refine q_lv (lv' := [(0, .ref (gad a0)), (2, .int (gI a2)), (3, .int (gI v5)), (4, .int (gI v3))]) [3, 5, 1, 0] rfl ?_
    exact t31  v5 v3 M h
set_option maxHeartbeats 4000000 in
set_option maxRecDepth 100000 in
theorem mX7_least (l : Launch) (D : va_G) (cy : Nat → ClassId) (kd : gKd) (ln : gLn) (rh : gRh) (post : Int → gM → Prop) (a0 : Int) (a1 : Int) (a2 : Int) (a3 : Int) (a4 : Int) (a5 : Int) (M : gM) (hk0 : kd a0 = 7) (h : wX7_least kd ln post a0 a1 a2 a3 a4 a5 M) : gMI l D cy yX7_least cX7_least 9 .int 1 25 [.ref (gad a0), .int (gI a1), .int (gI a2), .int (gI a3), .int (gI a4), .int (gI a5)] kd ln rh M post := by
  refine gMI_of (own := RX7) (by decide) rfl (Nat.le_of_ble_eq_true rfl) ?_
  intro p e s m args below meth c A H0 Q C hret
  have t75 : ∀ (k15 : Int → Int → gM → Prop), (∀ (x6 : Int), ∀ (x7 : Int), ∀ (M : gM), k15 x6 x7 M → gW p l e (gRm 1 25) s m args below meth c D cy A H0 Q 9 kd ln rh 0 0 M 15 [(0, .ref (gad a0)), (1, .int (gI a1)), (2, .int (gI a2)), (3, .int (gI a3)), (4, .int (gI a4)), (5, .int (gI a5)), (6, .int (gI x6)), (7, .int (gI x7))] []) → ∀ (x7 : Int) (y0 : Int) (M : gM), wX7_least_75 kd ln post a0 a1 a2 a3 a4 a5 k15 x7 y0 M → gW p l e (gRm 1 25) s m args below meth c D cy A H0 Q 9 kd ln rh 0 0 M 75 [(0, .ref (gad a0)), (1, .int (gI a1)), (2, .int (gI a2)), (3, .int (gI a3)), (4, .int (gI a4)), (5, .int (gI a5)), (7, .int (gI x7))] [.int (gI y0)] := by
    intro k15 hk15_ x7 y0 M h
    unfold wX7_least_75 at h
    refine q_istore (lv' := [(6, .int (gI y0)), (0, .ref (gad a0)), (1, .int (gI a1)), (2, .int (gI a2)), (3, .int (gI a3)), (4, .int (gI a4)), (5, .int (gI a5)), (7, .int (gI x7))]) C (by decide) rfl dX7_least_75 ?_
    refine q_iinc (lv' := [(7, .int (gI (x7 + 1))), (6, .int (gI y0)), (0, .ref (gad a0)), (1, .int (gI a1)), (2, .int (gI a2)), (3, .int (gI a3)), (4, .int (gI a4)), (5, .int (gI a5))]) C 7 rfl (by decide) rfl dX7_least_77 ?_
    refine q_goto (tgt := 15) C (by decide) dX7_least_80 ?_
    refine q_lv (lv' := [(0, .ref (gad a0)), (1, .int (gI a1)), (2, .int (gI a2)), (3, .int (gI a3)), (4, .int (gI a4)), (5, .int (gI a5)), (6, .int (gI y0)), (7, .int (gI (x7 + 1)))]) [2, 3, 4, 5, 6, 7, 1, 0] rfl ?_
    exact hk15_ y0 (x7 + 1) M h
  have t28 : ∀ (k15 : Int → Int → gM → Prop), (∀ (x6 : Int), ∀ (x7 : Int), ∀ (M : gM), k15 x6 x7 M → gW p l e (gRm 1 25) s m args below meth c D cy A H0 Q 9 kd ln rh 0 0 M 15 [(0, .ref (gad a0)), (1, .int (gI a1)), (2, .int (gI a2)), (3, .int (gI a3)), (4, .int (gI a4)), (5, .int (gI a5)), (6, .int (gI x6)), (7, .int (gI x7))] []) → ∀ (x6 : Int) (x7 : Int) (y0 : Int) (y1 : Int) (M : gM), wX7_least_28 kd ln post a0 a1 a2 a3 a4 a5 k15 x6 x7 y0 y1 M → gW p l e (gRm 1 25) s m args below meth c D cy A H0 Q 9 kd ln rh 0 0 M 28 [(0, .ref (gad a0)), (1, .int (gI a1)), (2, .int (gI a2)), (3, .int (gI a3)), (4, .int (gI a4)), (5, .int (gI a5)), (6, .int (gI x6)), (7, .int (gI x7))] [.int (gI y0), .int (gI y1)] := by
    intro k15 hk15_ x6 x7 y0 y1 M h
    unfold wX7_least_28 at h
    obtain ⟨r6, h⟩ := h
    obtain ⟨r7, h⟩ := h
    refine q_icmp_ge (tgt := 83) C r6 r7 (by decide) dX7_least_28 (fun b8 => ?_) (fun b8 => ?_)
    · have h := h.1 b8
      refine q_iload C 6 rfl dX7_least_83 ?_
      obtain ⟨r9, h⟩ := h
      exact hret x6 M _ _ dX7_least_85 r9 h
    · have h := h.2 b8
      refine q_aload_n C 0 rfl rfl dX7_least_31 ?_
      refine q_aload_n C 0 rfl rfl dX7_least_32 ?_
      refine q_iload_n C 2 rfl rfl dX7_least_33 ?_
      refine q_iload C 7 rfl dX7_least_34 ?_
      refine q_callVI (As := [.int (gI a2), .int (gI x7)]) (st := [.ref (gad a0)]) C vX7_170 kX7_image ⟨Nat.le_of_ble_eq_true rfl, Nat.le_of_ble_eq_true rfl⟩ ⟨Nat.le_of_ble_eq_true rfl, Nat.le_of_ble_eq_true rfl⟩ rfl hk0 ⟨_, _, rfl⟩ (by decide) rfl (Nat.le_of_ble_eq_true rfl) (mX7_image l D cy kd ln rh _ a0 a2 x7 M hk0 h) dX7_least_36 (fun c11 M10 g12 h => ?_)
      have h := h g12
      refine q_aload_n C 0 rfl rfl dX7_least_39 ?_
      refine q_iload_n C 3 rfl rfl dX7_least_40 ?_
      refine q_iload C 7 rfl dX7_least_41 ?_
      refine q_callVI (As := [.int (gI a3), .int (gI x7)]) (st := [.int (gI c11), .ref (gad a0)]) C vX7_170 kX7_image ⟨Nat.le_of_ble_eq_true rfl, Nat.le_of_ble_eq_true rfl⟩ ⟨Nat.le_of_ble_eq_true rfl, Nat.le_of_ble_eq_true rfl⟩ rfl hk0 ⟨_, _, rfl⟩ (by decide) rfl (Nat.le_of_ble_eq_true rfl) (mX7_image l D cy kd ln rh _ a0 a3 x7 M10 hk0 h) dX7_least_43 (fun c14 M13 g15 h => ?_)
      have h := h g15
      refine q_aload_n C 0 rfl rfl dX7_least_46 ?_
      refine q_iload C 4 rfl dX7_least_47 ?_
      refine q_iload C 7 rfl dX7_least_49 ?_
      refine q_callVI (As := [.int (gI a4), .int (gI x7)]) (st := [.int (gI c14), .int (gI c11), .ref (gad a0)]) C vX7_170 kX7_image ⟨Nat.le_of_ble_eq_true rfl, Nat.le_of_ble_eq_true rfl⟩ ⟨Nat.le_of_ble_eq_true rfl, Nat.le_of_ble_eq_true rfl⟩ rfl hk0 ⟨_, _, rfl⟩ (by decide) rfl (Nat.le_of_ble_eq_true rfl) (mX7_image l D cy kd ln rh _ a0 a4 x7 M13 hk0 h) dX7_least_51 (fun c17 M16 g18 h => ?_)
      have h := h g18
      refine q_iload C 5 rfl dX7_least_54 ?_
      refine q_callVI (As := [.int (gI c11), .int (gI c14), .int (gI c17), .int (gI a5)]) (st := []) C vX7_119 kX7_key ⟨Nat.le_of_ble_eq_true rfl, Nat.le_of_ble_eq_true rfl⟩ ⟨Nat.le_of_ble_eq_true rfl, Nat.le_of_ble_eq_true rfl⟩ rfl hk0 ⟨_, _, rfl⟩ (by decide) rfl (Nat.le_of_ble_eq_true rfl) (mX7_key l D cy kd ln rh _ a0 c11 c14 c17 a5 M16 hk0 h) dX7_least_56 (fun c20 M19 g21 h => ?_)
      have h := h g21
      refine q_istore (lv' := [(8, .int (gI c20)), (0, .ref (gad a0)), (1, .int (gI a1)), (2, .int (gI a2)), (3, .int (gI a3)), (4, .int (gI a4)), (5, .int (gI a5)), (6, .int (gI x6)), (7, .int (gI x7))]) C (by decide) rfl dX7_least_59 ?_
      refine q_iload C 0 rfl dX7_least_61 ?_
      refine q_iload C 7 rfl dX7_least_63 ?_
      obtain ⟨r22, h⟩ := h
      refine q_icmp_ge (tgt := 73) C g21 r22 (by decide) dX7_least_65 (fun b23 => ?_) (fun b23 => ?_)
      · have h := h.1 b23
        refine q_iload C 7 rfl dX7_least_73 ?_
        refine q_lv (lv' := [(0, .ref (gad a0)), (1, .int (gI a1)), (2, .int (gI a2)), (3, .int (gI a3)), (4, .int (gI a4)), (5, .int (gI a5)), (7, .int (gI x7))]) [1, 2, 3, 4, 5, 6, 8] rfl ?_
        exact t75 k15 hk15_ x7 x6 M19 h
      · have h := h.2 b23
        refine q_iload C 0 rfl dX7_least_68 ?_
        refine q_goto (tgt := 75) C (by decide) dX7_least_70 ?_
        refine q_lv (lv' := [(0, .ref (gad a0)), (1, .int (gI a1)), (2, .int (gI a2)), (3, .int (gI a3)), (4, .int (gI a4)), (5, .int (gI a5)), (7, .int (gI x7))]) [1, 2, 3, 4, 5, 6, 8] rfl ?_
        exact t75 k15 hk15_ x7 c20 M19 h
  have t15 : ∀ (n : Nat) (x6 : Int) (x7 : Int) (M : gM), wX7_least_15 kd ln post a0 a1 a2 a3 a4 a5 n x6 x7 M → gW p l e (gRm 1 25) s m args below meth c D cy A H0 Q 9 kd ln rh 0 0 M 15 [(0, .ref (gad a0)), (1, .int (gI a1)), (2, .int (gI a2)), (3, .int (gI a3)), (4, .int (gI a4)), (5, .int (gI a5)), (6, .int (gI x6)), (7, .int (gI x7))] [] := by
    intro n
    induction n with
    | zero => intro x6 x7 M h; exact absurd h (by simp [wX7_least_15])
    | succ n ih =>
      intro x6 x7 M h
      have hk15_ := ih
      rw [wX7_least_15] at h
      refine q_iload C 7 rfl dX7_least_15 ?_
      refine q_iload_n C 1 rfl rfl dX7_least_17 ?_
      refine q_iconst C dX7_least_18 ?_
      obtain ⟨r4, h⟩ := h
      refine q_icmp_ne (tgt := 26) C r4 (show rng 2 by decide) (by decide) dX7_least_19 (fun b5 => ?_) (fun b5 => ?_)
      · have h := h.1 b5
        refine q_bipush C (by decide) dX7_least_26 ?_
        exact t28 (wX7_least_15 kd ln post a0 a1 a2 a3 a4 a5 n) hk15_ x6 x7 8 x7 M h
      · have h := h.2 b5
        refine q_iconst C dX7_least_22 ?_
        refine q_goto (tgt := 28) C (by decide) dX7_least_23 ?_
        exact t28 (wX7_least_15 kd ln post a0 a1 a2 a3 a4 a5 n) hk15_ x6 x7 2 x7 M h
  unfold wX7_least at h
  refine q_aload_n C 0 rfl rfl dX7_least_0 ?_
  refine q_iload_n C 2 rfl rfl dX7_least_1 ?_
  refine q_iload_n C 3 rfl rfl dX7_least_2 ?_
  refine q_iload C 4 rfl dX7_least_3 ?_
  refine q_iload C 5 rfl dX7_least_5 ?_
  refine q_callVI (As := [.int (gI a2), .int (gI a3), .int (gI a4), .int (gI a5)]) (st := []) C vX7_119 kX7_key ⟨Nat.le_of_ble_eq_true rfl, Nat.le_of_ble_eq_true rfl⟩ ⟨Nat.le_of_ble_eq_true rfl, Nat.le_of_ble_eq_true rfl⟩ rfl hk0 ⟨_, _, rfl⟩ (by decide) rfl (Nat.le_of_ble_eq_true rfl) (mX7_key l D cy kd ln rh _ a0 a2 a3 a4 a5 M hk0 h) dX7_least_7 (fun c2 M1 g3 h => ?_)
  have h := h g3
  refine q_istore (lv' := [(6, .int (gI c2)), (0, .ref (gad a0)), (1, .int (gI a1)), (2, .int (gI a2)), (3, .int (gI a3)), (4, .int (gI a4)), (5, .int (gI a5))]) C (by decide) rfl dX7_least_10 ?_
  refine q_iconst C dX7_least_12 ?_
  refine q_istore (lv' := [(7, .int (gI 1)), (6, .int (gI c2)), (0, .ref (gad a0)), (1, .int (gI a1)), (2, .int (gI a2)), (3, .int (gI a3)), (4, .int (gI a4)), (5, .int (gI a5))]) C (by decide) rfl dX7_least_13 ?_
  refine q_lv (lv' := [(0, .ref (gad a0)), (1, .int (gI a1)), (2, .int (gI a2)), (3, .int (gI a3)), (4, .int (gI a4)), (5, .int (gI a5)), (6, .int (gI c2)), (7, .int (gI 1))]) [2, 3, 4, 5, 6, 7, 1, 0] rfl ?_
  obtain ⟨j15, h⟩ := h
  exact t15  j15 c2 1 M1 h
