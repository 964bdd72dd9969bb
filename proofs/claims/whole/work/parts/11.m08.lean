set_option maxHeartbeats 4000000 in
set_option maxRecDepth 100000 in
theorem mX7_count (l : Launch) (D : va_G) (cy : Nat → ClassId) (kd : gKd) (ln : gLn) (rh : gRh) (post : Int → gM → Prop) (a0 : Int) (a1 : Int) (a2 : Int) (a3 : Int) (M : gM) (hk0 : kd a0 = 7) (h : wX7_count kd ln post a0 a1 a2 a3 M) : gMI l D cy yX7_count cX7_count 8 .int 5 128 [.ref (gad a0), .int (gI a1), .int (gI a2), .int (gI a3)] kd ln rh M post := by
  refine gMI_of (own := RX7) (by decide) rfl (Nat.le_of_ble_eq_true rfl) ?_
  intro p e s m args below meth c A H0 Q C hret
  have t139 : ∀ (k55 : Int → Int → Int → gM → Prop), (∀ (x4 : Int), ∀ (x5 : Int), ∀ (x6 : Int), ∀ (M : gM), k55 x4 x5 x6 M → gW p l e (gRm 5 128) s m args below meth c D cy A H0 Q 8 kd ln rh 0 0 M 55 [(0, .ref (gad a0)), (1, .int (gI a1)), (3, .int (gI a3)), (4, .int (gI x4)), (5, .int (gI x5)), (6, .int (gI x6))] []) → ∀ (x4 : Int) (x5 : Int) (x6 : Int) (M : gM), wX7_count_139 kd ln post a0 a1 a2 a3 k55 x4 x5 x6 M → gW p l e (gRm 5 128) s m args below meth c D cy A H0 Q 8 kd ln rh 0 0 M 139 [(0, .ref (gad a0)), (1, .int (gI a1)), (3, .int (gI a3)), (4, .int (gI x4)), (5, .int (gI x5)), (6, .int (gI x6))] [] := by
    intro k55 hk55_ x4 x5 x6 M h
    unfold wX7_count_139 at h
    refine q_iinc (lv' := [(6, .int (gI (x6 + 2))), (0, .ref (gad a0)), (1, .int (gI a1)), (3, .int (gI a3)), (4, .int (gI x4)), (5, .int (gI x5))]) C 5 rfl (by decide) rfl dX7_count_139 ?_
    refine q_goto (tgt := 55) C (by decide) dX7_count_142 ?_
    refine q_lv (lv' := [(0, .ref (gad a0)), (1, .int (gI a1)), (3, .int (gI a3)), (4, .int (gI x4)), (5, .int (gI x5)), (6, .int (gI (x6 + 2)))]) [1, 2, 3, 4, 5, 0] rfl ?_
    exact hk55_ x4 x5 (x6 + 2) M h
  have t136 : ∀ (k55 : Int → Int → Int → gM → Prop), (∀ (x4 : Int), ∀ (x5 : Int), ∀ (x6 : Int), ∀ (M : gM), k55 x4 x5 x6 M → gW p l e (gRm 5 128) s m args below meth c D cy A H0 Q 8 kd ln rh 0 0 M 55 [(0, .ref (gad a0)), (1, .int (gI a1)), (3, .int (gI a3)), (4, .int (gI x4)), (5, .int (gI x5)), (6, .int (gI x6))] []) → ∀ (x4 : Int) (x6 : Int) (y0 : Int) (y1 : Int) (M : gM), wX7_count_136 kd ln post a0 a1 a2 a3 k55 x4 x6 y0 y1 M → gW p l e (gRm 5 128) s m args below meth c D cy A H0 Q 8 kd ln rh 0 0 M 136 [(0, .ref (gad a0)), (1, .int (gI a1)), (3, .int (gI a3)), (4, .int (gI x4)), (6, .int (gI x6))] [.int (gI y0), .int (gI y1)] := by
    intro k55 hk55_ x4 x6 y0 y1 M h
    unfold wX7_count_136 at h
    refine q_iadd C dX7_count_136 ?_
    refine q_topi (fun v42 ev42 => ?_)
    have h := h v42 ev42
    refine q_istore (lv' := [(5, .int (gI v42)), (0, .ref (gad a0)), (1, .int (gI a1)), (3, .int (gI a3)), (4, .int (gI x4)), (6, .int (gI x6))]) C (by decide) rfl dX7_count_137 ?_
    refine q_lv (lv' := [(0, .ref (gad a0)), (1, .int (gI a1)), (3, .int (gI a3)), (4, .int (gI x4)), (5, .int (gI v42)), (6, .int (gI x6))]) [1, 2, 3, 4, 0, 5] rfl ?_
    exact t139 k55 hk55_ x4 v42 x6 M h
  have t122 : ∀ (k55 : Int → Int → Int → gM → Prop), (∀ (x4 : Int), ∀ (x5 : Int), ∀ (x6 : Int), ∀ (M : gM), k55 x4 x5 x6 M → gW p l e (gRm 5 128) s m args below meth c D cy A H0 Q 8 kd ln rh 0 0 M 55 [(0, .ref (gad a0)), (1, .int (gI a1)), (3, .int (gI a3)), (4, .int (gI x4)), (5, .int (gI x5)), (6, .int (gI x6))] []) → ∀ (x4 : Int) (x5 : Int) (x6 : Int) (y0 : Int) (M : gM), wX7_count_122 kd ln post a0 a1 a2 a3 k55 x4 x5 x6 y0 M → gW p l e (gRm 5 128) s m args below meth c D cy A H0 Q 8 kd ln rh 0 0 M 122 [(0, .ref (gad a0)), (1, .int (gI a1)), (3, .int (gI a3)), (4, .int (gI x4)), (5, .int (gI x5)), (6, .int (gI x6))] [.int (gI y0)] := by
    intro k55 hk55_ x4 x5 x6 y0 M h
    unfold wX7_count_122 at h
    refine q_istore (lv' := [(7, .int (gI y0)), (0, .ref (gad a0)), (1, .int (gI a1)), (3, .int (gI a3)), (4, .int (gI x4)), (5, .int (gI x5)), (6, .int (gI x6))]) C (by decide) rfl dX7_count_122 ?_
    refine q_iload C 5 rfl dX7_count_124 ?_
    refine q_iload C 0 rfl dX7_count_126 ?_
    obtain ⟨r40, h⟩ := h
    refine q_if_eq (tgt := 135) C r40 (by decide) dX7_count_128 (fun b41 => ?_) (fun b41 => ?_)
    · have h := h.1 b41
      refine q_iconst C dX7_count_135 ?_
      refine q_lv (lv' := [(0, .ref (gad a0)), (1, .int (gI a1)), (3, .int (gI a3)), (4, .int (gI x4)), (6, .int (gI x6))]) [1, 2, 3, 4, 6] rfl ?_
      exact t136 k55 hk55_ x4 x6 0 x5 M h
    · have h := h.2 b41
      refine q_iconst C dX7_count_131 ?_
      refine q_goto (tgt := 136) C (by decide) dX7_count_132 ?_
      refine q_lv (lv' := [(0, .ref (gad a0)), (1, .int (gI a1)), (3, .int (gI a3)), (4, .int (gI x4)), (6, .int (gI x6))]) [1, 2, 3, 4, 6] rfl ?_
      exact t136 k55 hk55_ x4 x6 1 x5 M h
  have t117 : ∀ (k55 : Int → Int → Int → gM → Prop), (∀ (x4 : Int), ∀ (x5 : Int), ∀ (x6 : Int), ∀ (M : gM), k55 x4 x5 x6 M → gW p l e (gRm 5 128) s m args below meth c D cy A H0 Q 8 kd ln rh 0 0 M 55 [(0, .ref (gad a0)), (1, .int (gI a1)), (3, .int (gI a3)), (4, .int (gI x4)), (5, .int (gI x5)), (6, .int (gI x6))] []) → ∀ (x4 : Int) (x5 : Int) (x6 : Int) (M : gM), wX7_count_117 kd ln post a0 a1 a2 a3 k55 x4 x5 x6 M → gW p l e (gRm 5 128) s m args below meth c D cy A H0 Q 8 kd ln rh 0 0 M 117 [(0, .ref (gad a0)), (1, .int (gI a1)), (3, .int (gI a3)), (4, .int (gI x4)), (5, .int (gI x5)), (6, .int (gI x6))] [] := by
    intro k55 hk55_ x4 x5 x6 M h
    unfold wX7_count_117 at h
    refine q_iconst C dX7_count_117 ?_
    refine q_goto (tgt := 122) C (by decide) dX7_count_118 ?_
    exact t122 k55 hk55_ x4 x5 x6 1 M h
  have t121 : ∀ (k55 : Int → Int → Int → gM → Prop), (∀ (x4 : Int), ∀ (x5 : Int), ∀ (x6 : Int), ∀ (M : gM), k55 x4 x5 x6 M → gW p l e (gRm 5 128) s m args below meth c D cy A H0 Q 8 kd ln rh 0 0 M 55 [(0, .ref (gad a0)), (1, .int (gI a1)), (3, .int (gI a3)), (4, .int (gI x4)), (5, .int (gI x5)), (6, .int (gI x6))] []) → ∀ (x4 : Int) (x5 : Int) (x6 : Int) (M : gM), wX7_count_121 kd ln post a0 a1 a2 a3 k55 x4 x5 x6 M → gW p l e (gRm 5 128) s m args below meth c D cy A H0 Q 8 kd ln rh 0 0 M 121 [(0, .ref (gad a0)), (1, .int (gI a1)), (3, .int (gI a3)), (4, .int (gI x4)), (5, .int (gI x5)), (6, .int (gI x6))] [] := by
    intro k55 hk55_ x4 x5 x6 M h
    unfold wX7_count_121 at h
    refine q_iconst C dX7_count_121 ?_
    exact t122 k55 hk55_ x4 x5 x6 0 M h
  have t94 : ∀ (k55 : Int → Int → Int → gM → Prop), (∀ (x4 : Int), ∀ (x5 : Int), ∀ (x6 : Int), ∀ (M : gM), k55 x4 x5 x6 M → gW p l e (gRm 5 128) s m args below meth c D cy A H0 Q 8 kd ln rh 0 0 M 55 [(0, .ref (gad a0)), (1, .int (gI a1)), (3, .int (gI a3)), (4, .int (gI x4)), (5, .int (gI x5)), (6, .int (gI x6))] []) → ∀ (x4 : Int) (x5 : Int) (x6 : Int) (M : gM), wX7_count_94 kd ln post a0 a1 a2 a3 k55 x4 x5 x6 M → gW p l e (gRm 5 128) s m args below meth c D cy A H0 Q 8 kd ln rh 0 0 M 94 [(0, .ref (gad a0)), (1, .int (gI a1)), (3, .int (gI a3)), (4, .int (gI x4)), (5, .int (gI x5)), (6, .int (gI x6))] [] := by
    intro k55 hk55_ x4 x5 x6 M h
    unfold wX7_count_94 at h
    refine q_iload_n C 2 rfl rfl dX7_count_94 ?_
    refine q_iconst C dX7_count_95 ?_
    obtain ⟨r32, h⟩ := h
    refine q_icmp_lt (tgt := 121) C r32 (show rng (-1) by decide) (by decide) dX7_count_96 (fun b33 => ?_) (fun b33 => ?_)
    · have h := h.1 b33
      exact t121 k55 hk55_ x4 x5 x6 M h
    · have h := h.2 b33
      refine q_aload_n C 0 rfl rfl dX7_count_99 ?_
      obtain ⟨r34, h⟩ := h
      refine q_get (v := .ref (rh a0 4)) C fX7_21 hk0 (if_neg (Int.not_lt.mpr r34)) dX7_count_100 (fun g35 => ?_)
      refine q_ldc (n := 524288) C nX7_118 (by decide) dX7_count_103 ?_
      refine q_iload_n C 1 rfl rfl dX7_count_105 ?_
      refine q_imul C dX7_count_106 ?_
      refine q_iload C 5 rfl dX7_count_107 ?_
      refine q_iadd C dX7_count_109 ?_
      obtain ⟨r36, h⟩ := h
      refine q_bald C hk0 rfl (fun _ q => q) r36 dX7_count_110 (fun g37 => ?_)
      have h := h g37
      refine q_iconst C dX7_count_111 ?_
      refine q_isub C dX7_count_112 ?_
      refine q_iload_n C 2 rfl rfl dX7_count_113 ?_
      obtain ⟨r38, h⟩ := h
      refine q_icmp_ne (tgt := 121) C r38 r32 (by decide) dX7_count_114 (fun b39 => ?_) (fun b39 => ?_)
      · have h := h.1 b39
        exact t121 k55 hk55_ x4 x5 x6 M h
      · have h := h.2 b39
        exact t117 k55 hk55_ x4 x5 x6 M h
  have t55 : ∀ (n : Nat) (x4 : Int) (x5 : Int) (x6 : Int) (M : gM), wX7_count_55 kd ln post a0 a1 a2 a3 n x4 x5 x6 M → gW p l e (gRm 5 128) s m args below meth c D cy A H0 Q 8 kd ln rh 0 0 M 55 [(0, .ref (gad a0)), (1, .int (gI a1)), (3, .int (gI a3)), (4, .int (gI x4)), (5, .int (gI x5)), (6, .int (gI x6))] [] := by
    intro n
    induction n with
    | zero => intro x4 x5 x6 M h; exact absurd h (by simp [wX7_count_55])
    | succ n ih =>
      intro x4 x5 x6 M h
      have hk55_ := ih
      rw [wX7_count_55] at h
      refine q_iload C 5 rfl dX7_count_55 ?_
      refine q_iload C 3 rfl dX7_count_57 ?_
      obtain ⟨r17, h⟩ := h
      obtain ⟨r18, h⟩ := h
      refine q_icmp_ge (tgt := 145) C r17 r18 (by decide) dX7_count_59 (fun b19 => ?_) (fun b19 => ?_)
      · have h := h.1 b19
        refine q_iload C 4 rfl dX7_count_145 ?_
        obtain ⟨r20, h⟩ := h
        exact hret x5 M _ _ dX7_count_147 r20 h
      · have h := h.2 b19
        refine q_aload_n C 0 rfl rfl dX7_count_62 ?_
        refine q_iload_n C 1 rfl rfl dX7_count_63 ?_
        refine q_iload C 5 rfl dX7_count_64 ?_
        refine q_callVI (As := [.int (gI a1), .int (gI x6)]) (st := []) C vX7_176 kX7_isCanon ⟨Nat.le_of_ble_eq_true rfl, Nat.le_of_ble_eq_true rfl⟩ ⟨Nat.le_of_ble_eq_true rfl, Nat.le_of_ble_eq_true rfl⟩ rfl hk0 ⟨_, _, rfl⟩ (by decide) rfl (Nat.le_of_ble_eq_true rfl) (mX7_isCanon l D cy kd ln rh _ a0 a1 x6 M hk0 h) dX7_count_66 (fun c22 M21 g23 h => ?_)
        have h := h g23
        refine q_if_eq (tgt := 139) C g23 (by decide) dX7_count_69 (fun b24 => ?_) (fun b24 => ?_)
        · have h := h.1 b24
          exact t139 (wX7_count_55 kd ln post a0 a1 a2 a3 n) hk55_ x4 x5 x6 M21 h
        · have h := h.2 b24
          refine q_iload_n C 2 rfl rfl dX7_count_72 ?_
          refine q_bipush C (by decide) dX7_count_73 ?_
          obtain ⟨r25, h⟩ := h
          refine q_icmp_eq (tgt := 117) C r25 (show rng (-2) by decide) (by decide) dX7_count_75 (fun b26 => ?_) (fun b26 => ?_)
          · have h := h.1 b26
            exact t117 (wX7_count_55 kd ln post a0 a1 a2 a3 n) hk55_ x4 x5 x6 M21 h
          · have h := h.2 b26
            refine q_iload_n C 2 rfl rfl dX7_count_78 ?_
            refine q_bipush C (by decide) dX7_count_79 ?_
            refine q_icmp_ne (tgt := 94) C r25 (show rng (-3) by decide) (by decide) dX7_count_81 (fun b27 => ?_) (fun b27 => ?_)
            · have h := h.1 b27
              exact t94 (wX7_count_55 kd ln post a0 a1 a2 a3 n) hk55_ x4 x5 x6 M21 h
            · have h := h.2 b27
              refine q_aload_n C 0 rfl rfl dX7_count_84 ?_
              refine q_iload_n C 1 rfl rfl dX7_count_85 ?_
              refine q_iload C 5 rfl dX7_count_86 ?_
              refine q_callVI (As := [.int (gI a1), .int (gI x6)]) (st := []) C vX7_205 kX7_isSqueezed ⟨Nat.le_of_ble_eq_true rfl, Nat.le_of_ble_eq_true rfl⟩ ⟨Nat.le_of_ble_eq_true rfl, Nat.le_of_ble_eq_true rfl⟩ rfl hk0 ⟨_, _, rfl⟩ (by decide) rfl (Nat.le_of_ble_eq_true rfl) (mX7_isSqueezed l D cy kd ln rh _ a0 a1 x6 M21 hk0 h) dX7_count_88 (fun c29 M28 g30 h => ?_)
              have h := h g30
              refine q_if_ne (tgt := 117) C g30 (by decide) dX7_count_91 (fun b31 => ?_) (fun b31 => ?_)
              · have h := h.1 b31
                exact t117 (wX7_count_55 kd ln post a0 a1 a2 a3 n) hk55_ x4 x5 x6 M28 h
              · have h := h.2 b31
                exact t94 (wX7_count_55 kd ln post a0 a1 a2 a3 n) hk55_ x4 x5 x6 M28 h
  have t23 : ∀ (y0 : Int) (M : gM), wX7_count_23 kd ln post a0 a1 a2 a3 y0 M → gW p l e (gRm 5 128) s m args below meth c D cy A H0 Q 8 kd ln rh 0 0 M 23 [(0, .ref (gad a0)), (1, .int (gI a1)), (2, .int (gI a2)), (3, .int (gI a3))] [.int (gI y0), .ref (gad a0)] := by
    intro  y0 M h
    unfold wX7_count_23 at h
    refine q_callVI (As := [.int (gI y0)]) (st := []) C vX7_186 kX7_may ⟨Nat.le_of_ble_eq_true rfl, Nat.le_of_ble_eq_true rfl⟩ ⟨Nat.le_of_ble_eq_true rfl, Nat.le_of_ble_eq_true rfl⟩ rfl hk0 ⟨_, _, rfl⟩ (by decide) rfl (Nat.le_of_ble_eq_true rfl) (mX7_may l D cy kd ln rh _ a0 y0 M hk0 h) dX7_count_23 (fun c10 M9 g11 h => ?_)
    have h := h g11
    refine q_if_ne (tgt := 31) C g11 (by decide) dX7_count_26 (fun b12 => ?_) (fun b12 => ?_)
    · have h := h.1 b12
      refine q_iconst C dX7_count_31 ?_
      refine q_aload_n C 0 rfl rfl dX7_count_32 ?_
      refine q_get (v := .int (gI (M9 a0 2 (-1)))) C fX7_13 hk0 rfl dX7_count_33 (fun g13 => ?_)
      have h := h g13
      refine q_imul C dX7_count_36 ?_
      refine q_aload_n C 0 rfl rfl dX7_count_37 ?_
      refine q_get (v := .int (gI (M9 a0 2 (-1)))) C fX7_13 hk0 rfl dX7_count_38 (fun g14 => ?_)
      refine q_imul C dX7_count_41 ?_
      refine q_aload_n C 0 rfl rfl dX7_count_42 ?_
      refine q_get (v := .int (gI (M9 a0 2 (-1)))) C fX7_13 hk0 rfl dX7_count_43 (fun g15 => ?_)
      refine q_imul C dX7_count_46 ?_
      refine q_topi (fun v16 ev16 => ?_)
      have h := h v16 ev16
      refine q_istore (lv' := [(4, .int (gI v16)), (0, .ref (gad a0)), (1, .int (gI a1)), (2, .int (gI a2)), (3, .int (gI a3))]) C (by decide) rfl dX7_count_47 ?_
      refine q_iconst C dX7_count_49 ?_
      refine q_istore (lv' := [(5, .int (gI 0)), (4, .int (gI v16)), (0, .ref (gad a0)), (1, .int (gI a1)), (2, .int (gI a2)), (3, .int (gI a3))]) C (by decide) rfl dX7_count_50 ?_
      refine q_iload_n C 4 rfl rfl dX7_count_52 ?_
      refine q_istore (lv' := [(6, .int (gI a2)), (5, .int (gI 0)), (4, .int (gI v16)), (0, .ref (gad a0)), (1, .int (gI a1)), (2, .int (gI a2)), (3, .int (gI a3))]) C (by decide) rfl dX7_count_53 ?_
      refine q_lv (lv' := [(0, .ref (gad a0)), (1, .int (gI a1)), (3, .int (gI a3)), (4, .int (gI v16)), (5, .int (gI 0)), (6, .int (gI a2))]) [3, 4, 6, 2, 1, 0] rfl ?_
      obtain ⟨j55, h⟩ := h
      exact t55  j55 v16 0 a2 M9 h
    · have h := h.2 b12
      refine q_iconst C dX7_count_29 ?_
      exact hret 0 M9 _ _ dX7_count_30 (show rng 0 by decide) h
  have t22 : ∀ (M : gM), wX7_count_22 kd ln post a0 a1 a2 a3  M → gW p l e (gRm 5 128) s m args below meth c D cy A H0 Q 8 kd ln rh 0 0 M 22 [(0, .ref (gad a0)), (1, .int (gI a1)), (2, .int (gI a2)), (3, .int (gI a3))] [.ref (gad a0)] := by
    intro   M h
    unfold wX7_count_22 at h
    refine q_iconst C dX7_count_22 ?_
    exact t23  0 M h
  unfold wX7_count at h
  refine q_aload_n C 0 rfl rfl dX7_count_0 ?_
  refine q_aload_n C 0 rfl rfl dX7_count_1 ?_
  refine q_iload_n C 1 rfl rfl dX7_count_2 ?_
  refine q_callVI (As := [.int (gI a1)]) (st := [.ref (gad a0)]) C vX7_179 kX7_isMade ⟨Nat.le_of_ble_eq_true rfl, Nat.le_of_ble_eq_true rfl⟩ ⟨Nat.le_of_ble_eq_true rfl, Nat.le_of_ble_eq_true rfl⟩ rfl hk0 ⟨_, _, rfl⟩ (by decide) rfl (Nat.le_of_ble_eq_true rfl) (mX7_isMade l D cy kd ln rh _ a0 a1 M hk0 h) dX7_count_3 (fun c2 M1 g3 h => ?_)
  have h := h g3
  refine q_if_eq (tgt := 22) C g3 (by decide) dX7_count_6 (fun b4 => ?_) (fun b4 => ?_)
  · have h := h.1 b4
    exact t22  M1 h
  · have h := h.2 b4
    refine q_iload_n C 2 rfl rfl dX7_count_9 ?_
    refine q_iconst C dX7_count_10 ?_
    refine q_iconst C dX7_count_11 ?_
    refine q_callSI (As := [.int (gI a2), .int (gI 0), .int (gI 1)]) (st := [.ref (gad a0)]) C vX7_84 kX7_in ⟨Nat.le_of_ble_eq_true rfl, Nat.le_of_ble_eq_true rfl⟩ ⟨Nat.le_of_ble_eq_true rfl, Nat.le_of_ble_eq_true rfl⟩ rfl rfl (Nat.le_of_ble_eq_true rfl) (mX7_in l D cy kd ln rh _ a2 0 1 M1  h) dX7_count_12 (fun c6 M5 g7 h => ?_)
    have h := h g7
    refine q_if_eq (tgt := 22) C g7 (by decide) dX7_count_15 (fun b8 => ?_) (fun b8 => ?_)
    · have h := h.1 b8
      exact t22  M5 h
    · have h := h.2 b8
      refine q_iconst C dX7_count_18 ?_
      refine q_goto (tgt := 23) C (by decide) dX7_count_19 ?_
      exact t23  1 M5 h
set_option maxHeartbeats 4000000 in
set_option maxRecDepth 100000 in
theorem mX7_distance (l : Launch) (D : va_G) (cy : Nat → ClassId) (kd : gKd) (ln : gLn) (rh : gRh) (post : Int → gM → Prop) (a0 : Int) (a1 : Int) (a2 : Int) (a3 : Int) (a4 : Int) (a5 : Int) (M : gM) (hk0 : kd a0 = 7) (h : wX7_distance kd ln post a0 a1 a2 a3 a4 a5 M) : gMI l D cy yX7_distance cX7_distance 6 .int 5 125 [.ref (gad a0), .int (gI a1), .int (gI a2), .int (gI a3), .int (gI a4), .int (gI a5)] kd ln rh M post := by
  refine gMI_of (own := RX7) (by decide) rfl (Nat.le_of_ble_eq_true rfl) ?_
  intro p e s m args below meth c A H0 Q C hret
  unfold wX7_distance at h
  refine q_aload_n C 0 rfl rfl dX7_distance_0 ?_
  refine q_iload_n C 1 rfl rfl dX7_distance_1 ?_
  refine q_iload_n C 2 rfl rfl dX7_distance_2 ?_
  refine q_iload_n C 3 rfl rfl dX7_distance_3 ?_
  refine q_iload C 4 rfl dX7_distance_4 ?_
  refine q_iload C 5 rfl dX7_distance_6 ?_
  refine q_callVI (As := [.int (gI a1), .int (gI a2), .int (gI a3), .int (gI a4), .int (gI a5)]) (st := []) C vX7_190 kX7_mayAsk ⟨Nat.le_of_ble_eq_true rfl, Nat.le_of_ble_eq_true rfl⟩ ⟨Nat.le_of_ble_eq_true rfl, Nat.le_of_ble_eq_true rfl⟩ rfl hk0 ⟨_, _, rfl⟩ (by decide) rfl (Nat.le_of_ble_eq_true rfl) (mX7_mayAsk l D cy kd ln rh _ a0 a1 a2 a3 a4 a5 M hk0 h) dX7_distance_8 (fun c2 M1 g3 h => ?_)
  have h := h g3
  refine q_if_eq (tgt := 28) C g3 (by decide) dX7_distance_11 (fun b4 => ?_) (fun b4 => ?_)
  · have h := h.1 b4
    refine q_iconst C dX7_distance_28 ?_
    exact hret 0 M1 _ _ dX7_distance_29 (show rng 0 by decide) h
  · have h := h.2 b4
    refine q_aload_n C 0 rfl rfl dX7_distance_14 ?_
    refine q_iload_n C 1 rfl rfl dX7_distance_15 ?_
    refine q_iload_n C 2 rfl rfl dX7_distance_16 ?_
    refine q_iload_n C 3 rfl rfl dX7_distance_17 ?_
    refine q_iload C 4 rfl dX7_distance_18 ?_
    refine q_iload C 5 rfl dX7_distance_20 ?_
    refine q_callVI (As := [.int (gI a1), .int (gI a2), .int (gI a3), .int (gI a4), .int (gI a5)]) (st := []) C vX7_123 kX7_distanceOf ⟨Nat.le_of_ble_eq_true rfl, Nat.le_of_ble_eq_true rfl⟩ ⟨Nat.le_of_ble_eq_true rfl, Nat.le_of_ble_eq_true rfl⟩ rfl hk0 ⟨_, _, rfl⟩ (by decide) rfl (Nat.le_of_ble_eq_true rfl) (mX7_distanceOf l D cy kd ln rh _ a0 a1 a2 a3 a4 a5 M1 hk0 h) dX7_distance_22 (fun c6 M5 g7 h => ?_)
    have h := h g7
    refine q_goto (tgt := 29) C (by decide) dX7_distance_25 ?_
    exact hret c6 M5 _ _ dX7_distance_29 g7 h
set_option maxHeartbeats 4000000 in
set_option maxRecDepth 100000 in
theorem mX7_four (l : Launch) (D : va_G) (cy : Nat → ClassId) (kd : gKd) (ln : gLn) (rh : gRh) (post : gM → Prop) (a0 : Int) (a1 : Int) (M : gM) (hk0 : kd a0 = 7) (h : wX7_four kd ln post a0 a1 M) : gMV l D cy yX7_four cX7_four 3 0 0 [.ref (gad a0), .int (gI a1)] kd ln rh M post := by
  refine gMV_of (own := RX7) (by decide) rfl (Nat.le_of_ble_eq_true rfl) ?_
  intro p e s m args below meth c A H0 Q C hret
  have t3 : ∀ (n : Nat) (x2 : Int) (M : gM), wX7_four_3 kd ln post a0 a1 n x2 M → gW p l e (gRm 0 0) s m args below meth c D cy A H0 Q 3 kd ln rh 0 0 M 3 [(0, .ref (gad a0)), (1, .int (gI a1)), (2, .int (gI x2))] [] := by
    intro n
    induction n with
    | zero => intro x2 M h; exact absurd h (by simp [wX7_four_3])
    | succ n ih =>
      intro x2 M h
      have hk3_ := ih
      rw [wX7_four_3] at h
      refine q_iload_n C 2 rfl rfl dX7_four_3 ?_
      obtain ⟨r1, h⟩ := h
      refine q_if_lt (tgt := 36) C r1 (by decide) dX7_four_4 (fun b2 => ?_) (fun b2 => ?_)
      · have h := h.1 b2
        exact hret M _ _ dX7_four_36 h
      · have h := h.2 b2
        refine q_aload_n C 0 rfl rfl dX7_four_7 ?_
        obtain ⟨r3, h⟩ := h
        refine q_get (v := .ref (rh a0 8)) C fX7_36 hk0 (if_neg (Int.not_lt.mpr r3)) dX7_four_8 (fun g4 => ?_)
        refine q_aload_n C 0 rfl rfl dX7_four_11 ?_
        refine q_get (v := .int (gI (M a0 9 (-1)))) C fX7_208 hk0 rfl dX7_four_12 (fun g5 => ?_)
        have h := h g5
        refine q_iload_n C 1 rfl rfl dX7_four_15 ?_
        refine q_iload_n C 2 rfl rfl dX7_four_16 ?_
        refine q_ishr C dX7_four_17 ?_
        refine q_i2b C dX7_four_18 ?_
        obtain ⟨r6, h⟩ := h
        obtain ⟨r7, h⟩ := h
        refine q_bast C hk0 rfl (rng8 r7) r7 r6 dX7_four_19 ?_
        refine q_aload_n C 0 rfl rfl dX7_four_20 ?_
        refine q_dup C rfl dX7_four_21 ?_
        refine q_get (v := .int (gI ((gu M a0 8 (M a0 9 (-1)) (gi2b (gishr a1 x2))) a0 9 (-1)))) C fX7_208 hk0 rfl dX7_four_22 (fun g8 => ?_)
        have h := h g8
        refine q_iconst C dX7_four_25 ?_
        refine q_iadd C dX7_four_26 ?_
        obtain ⟨r9, h⟩ := h
        refine q_put (x := (((gu M a0 8 (M a0 9 (-1)) (gi2b (gishr a1 x2))) a0 9 (-1)) + 1)) (ty := .int) C fX7_208 hk0 (fun _ _ _ q => by cases q; rfl) (congrArg (fun z => Value.int (gI z)) gu_s) rfl rfl r9 (fun j q => absurd (show (0 : Nat) = j + 3 from q) (by omega)) dX7_four_27 ?_
        refine q_iinc (lv' := [(2, .int (gI (x2 + (-8)))), (0, .ref (gad a0)), (1, .int (gI a1))]) C 2 rfl (by decide) rfl dX7_four_30 ?_
        refine q_goto (tgt := 3) C (by decide) dX7_four_33 ?_
        refine q_lv (lv' := [(0, .ref (gad a0)), (1, .int (gI a1)), (2, .int (gI (x2 + (-8))))]) [1, 2, 0] rfl ?_
        exact hk3_ (x2 + (-8)) (gu (gu M a0 8 (M a0 9 (-1)) (gi2b (gishr a1 x2))) a0 9 (-1) (((gu M a0 8 (M a0 9 (-1)) (gi2b (gishr a1 x2))) a0 9 (-1)) + 1)) h
  unfold wX7_four at h
  refine q_bipush C (by decide) dX7_four_0 ?_
  refine q_istore_n (lv' := [(2, .int (gI 24)), (0, .ref (gad a0)), (1, .int (gI a1))]) C rfl (by decide) rfl dX7_four_2 ?_
  refine q_lv (lv' := [(0, .ref (gad a0)), (1, .int (gI a1)), (2, .int (gI 24))]) [1, 2, 0] rfl ?_
  obtain ⟨j3, h⟩ := h
  exact t3  j3 24 M h
set_option maxHeartbeats 4000000 in
set_option maxRecDepth 100000 in
theorem mX7_feed (l : Launch) (D : va_G) (cy : Nat → ClassId) (kd : gKd) (ln : gLn) (rh : gRh) (post : Int → gM → Prop) (a0 : Int) (a1 : Int) (a2 : Int) (a3 : Int) (a4 : Int) (a5 : Int) (M : gM) (hk0 : kd a0 = 7) (h : wX7_feed kd ln post a0 a1 a2 a3 a4 a5 M) : gMI l D cy yX7_feed cX7_feed 6 .int 1 22 [.ref (gad a0), .int (gI a1), .int (gI a2), .int (gI a3), .int (gI a4), .int (gI a5)] kd ln rh M post := by
  refine gMI_of (own := RX7) (by decide) rfl (Nat.le_of_ble_eq_true rfl) ?_
  intro p e s m args below meth c A H0 Q C hret
  unfold wX7_feed at h
  refine q_aload_n C 0 rfl rfl dX7_feed_0 ?_
  refine q_iconst C dX7_feed_1 ?_
  refine q_put (x := 0) (ty := .int) C fX7_81 hk0 (fun _ _ _ q => by cases q; rfl) (congrArg (fun z => Value.int (gI z)) gu_s) rfl rfl (show rng 0 by decide) (fun j q => absurd (show (0 : Nat) = j + 3 from q) (by omega)) dX7_feed_2 ?_
  refine q_aload_n C 0 rfl rfl dX7_feed_5 ?_
  refine q_get (v := .int (gI ((gu M a0 0 (-1) 0) a0 9 (-1)))) C fX7_208 hk0 rfl dX7_feed_6 (fun g1 => ?_)
  have h := h g1
  refine q_bipush C (by decide) dX7_feed_9 ?_
  refine q_iadd C dX7_feed_11 ?_
  refine q_bipush C (by decide) dX7_feed_12 ?_
  obtain ⟨r2, h⟩ := h
  refine q_icmp_le (tgt := 19) C r2 (show rng 40 by decide) (by decide) dX7_feed_14 (fun b3 => ?_) (fun b3 => ?_)
  · have h := h.1 b3
    refine q_aload_n C 0 rfl rfl dX7_feed_19 ?_
    refine q_iload_n C 1 rfl rfl dX7_feed_20 ?_
    refine q_callVV (As := [.int (gI a1)]) (st := []) C vX7_211 kX7_four ⟨Nat.le_of_ble_eq_true rfl, Nat.le_of_ble_eq_true rfl⟩ ⟨Nat.le_of_ble_eq_true rfl, Nat.le_of_ble_eq_true rfl⟩ rfl hk0 ⟨_, _, rfl⟩ (by decide) rfl (Nat.le_of_ble_eq_true rfl) (mX7_four l D cy kd ln rh _ a0 a1 (gu M a0 0 (-1) 0) hk0 h) dX7_feed_21 (fun M4 h => ?_)
    refine q_aload_n C 0 rfl rfl dX7_feed_24 ?_
    refine q_iload_n C 2 rfl rfl dX7_feed_25 ?_
    refine q_callVV (As := [.int (gI a2)]) (st := []) C vX7_211 kX7_four ⟨Nat.le_of_ble_eq_true rfl, Nat.le_of_ble_eq_true rfl⟩ ⟨Nat.le_of_ble_eq_true rfl, Nat.le_of_ble_eq_true rfl⟩ rfl hk0 ⟨_, _, rfl⟩ (by decide) rfl (Nat.le_of_ble_eq_true rfl) (mX7_four l D cy kd ln rh _ a0 a2 M4 hk0 h) dX7_feed_26 (fun M7 h => ?_)
    refine q_aload_n C 0 rfl rfl dX7_feed_29 ?_
    refine q_iload_n C 3 rfl rfl dX7_feed_30 ?_
    refine q_callVV (As := [.int (gI a3)]) (st := []) C vX7_211 kX7_four ⟨Nat.le_of_ble_eq_true rfl, Nat.le_of_ble_eq_true rfl⟩ ⟨Nat.le_of_ble_eq_true rfl, Nat.le_of_ble_eq_true rfl⟩ rfl hk0 ⟨_, _, rfl⟩ (by decide) rfl (Nat.le_of_ble_eq_true rfl) (mX7_four l D cy kd ln rh _ a0 a3 M7 hk0 h) dX7_feed_31 (fun M10 h => ?_)
    refine q_aload_n C 0 rfl rfl dX7_feed_34 ?_
    refine q_iload C 4 rfl dX7_feed_35 ?_
    refine q_callVV (As := [.int (gI a4)]) (st := []) C vX7_211 kX7_four ⟨Nat.le_of_ble_eq_true rfl, Nat.le_of_ble_eq_true rfl⟩ ⟨Nat.le_of_ble_eq_true rfl, Nat.le_of_ble_eq_true rfl⟩ rfl hk0 ⟨_, _, rfl⟩ (by decide) rfl (Nat.le_of_ble_eq_true rfl) (mX7_four l D cy kd ln rh _ a0 a4 M10 hk0 h) dX7_feed_37 (fun M13 h => ?_)
    refine q_aload_n C 0 rfl rfl dX7_feed_40 ?_
    refine q_iload C 5 rfl dX7_feed_41 ?_
    refine q_callVV (As := [.int (gI a5)]) (st := []) C vX7_211 kX7_four ⟨Nat.le_of_ble_eq_true rfl, Nat.le_of_ble_eq_true rfl⟩ ⟨Nat.le_of_ble_eq_true rfl, Nat.le_of_ble_eq_true rfl⟩ rfl hk0 ⟨_, _, rfl⟩ (by decide) rfl (Nat.le_of_ble_eq_true rfl) (mX7_four l D cy kd ln rh _ a0 a5 M13 hk0 h) dX7_feed_43 (fun M16 h => ?_)
    refine q_aload_n C 0 rfl rfl dX7_feed_46 ?_
    refine q_get (v := .int (gI (M16 a0 9 (-1)))) C fX7_208 hk0 rfl dX7_feed_47 (fun g19 => ?_)
    have h := h g19
    exact hret (M16 a0 9 (-1)) M16 _ _ dX7_feed_50 g19 h
  · have h := h.2 b3
    refine q_iconst C dX7_feed_17 ?_
    exact hret (-1) (gu M a0 0 (-1) 0) _ _ dX7_feed_18 (show rng (-1) by decide) h
set_option maxHeartbeats 4000000 in
set_option maxRecDepth 100000 in
theorem mX7_image (l : Launch) (D : va_G) (cy : Nat → ClassId) (kd : gKd) (ln : gLn) (rh : gRh) (post : Int → gM → Prop) (a0 : Int) (a1 : Int) (a2 : Int) (M : gM) (hk0 : kd a0 = 7) (h : wX7_image kd ln post a0 a1 a2 M) : gMI l D cy yX7_image cX7_image 6 .int 0 0 [.ref (gad a0), .int (gI a1), .int (gI a2)] kd ln rh M post := by
  refine gMI_of (own := RX7) (by decide) rfl (Nat.le_of_ble_eq_true rfl) ?_
  intro p e s m args below meth c A H0 Q C hret
  have t70 : ∀ (x3 : Int) (y0 : Int) (M : gM), wX7_image_70 kd ln post a0 a1 a2 x3 y0 M → gW p l e (gRm 0 0) s m args below meth c D cy A H0 Q 6 kd ln rh 0 0 M 70 [(0, .ref (gad a0)), (3, .int (gI x3))] [.int (gI y0)] := by
    intro  x3 y0 M h
    unfold wX7_image_70 at h
    refine q_istore (lv' := [(4, .int (gI y0)), (0, .ref (gad a0)), (3, .int (gI x3))]) C (by decide) rfl dX7_image_70 ?_
    refine q_aload_n C 1 rfl rfl dX7_image_72 ?_
    refine q_get (v := .int (gI (M a0 1 (-1)))) C fX7_7 hk0 rfl dX7_image_73 (fun g14 => ?_)
    have h := h g14
    refine q_iload C 0 rfl dX7_image_76 ?_
    refine q_imul C dX7_image_78 ?_
    refine q_iload_n C 2 rfl rfl dX7_image_79 ?_
    refine q_iadd C dX7_image_80 ?_
    obtain ⟨r15, h⟩ := h
    exact hret (((M a0 1 (-1)) * y0) + x3) M _ _ dX7_image_81 r15 h
  have t49 : ∀ (x4 : Int) (y0 : Int) (M : gM), wX7_image_49 kd ln post a0 a1 a2 x4 y0 M → gW p l e (gRm 0 0) s m args below meth c D cy A H0 Q 6 kd ln rh 0 0 M 49 [(0, .ref (gad a0)), (2, .int (gI a2)), (4, .int (gI x4))] [.int (gI y0)] := by
    intro  x4 y0 M h
    unfold wX7_image_49 at h
    refine q_istore_n (lv' := [(3, .int (gI y0)), (0, .ref (gad a0)), (2, .int (gI a2)), (4, .int (gI x4))]) C rfl (by decide) rfl dX7_image_49 ?_
    refine q_iload_n C 2 rfl rfl dX7_image_50 ?_
    refine q_iconst C dX7_image_51 ?_
    refine q_iand C dX7_image_52 ?_
    obtain ⟨r11, h⟩ := h
    refine q_if_eq (tgt := 68) C r11 (by decide) dX7_image_53 (fun b12 => ?_) (fun b12 => ?_)
    · have h := h.1 b12
      refine q_iload C 3 rfl dX7_image_68 ?_
      refine q_lv (lv' := [(0, .ref (gad a0)), (3, .int (gI y0))]) [1, 0] rfl ?_
      exact t70  y0 x4 M h
    · have h := h.2 b12
      refine q_aload_n C 1 rfl rfl dX7_image_56 ?_
      refine q_get (v := .int (gI (M a0 1 (-1)))) C fX7_7 hk0 rfl dX7_image_57 (fun g13 => ?_)
      have h := h g13
      refine q_iconst C dX7_image_60 ?_
      refine q_isub C dX7_image_61 ?_
      refine q_iload C 3 rfl dX7_image_62 ?_
      refine q_isub C dX7_image_64 ?_
      refine q_goto (tgt := 70) C (by decide) dX7_image_65 ?_
      refine q_lv (lv' := [(0, .ref (gad a0)), (3, .int (gI y0))]) [1, 0] rfl ?_
      exact t70  y0 (((M a0 1 (-1)) - 1) - x4) M h
  have t31 : ∀ (x3 : Int) (x4 : Int) (M : gM), wX7_image_31 kd ln post a0 a1 a2 x3 x4 M → gW p l e (gRm 0 0) s m args below meth c D cy A H0 Q 6 kd ln rh 0 0 M 31 [(0, .ref (gad a0)), (2, .int (gI a2)), (3, .int (gI x3)), (4, .int (gI x4))] [] := by
    intro  x3 x4 M h
    unfold wX7_image_31 at h
    refine q_iload_n C 1 rfl rfl dX7_image_31 ?_
    refine q_iconst C dX7_image_32 ?_
    refine q_iand C dX7_image_33 ?_
    obtain ⟨r8, h⟩ := h
    refine q_if_eq (tgt := 48) C r8 (by decide) dX7_image_34 (fun b9 => ?_) (fun b9 => ?_)
    · have h := h.1 b9
      refine q_iload_n C 2 rfl rfl dX7_image_48 ?_
      refine q_lv (lv' := [(0, .ref (gad a0)), (2, .int (gI a2)), (4, .int (gI x4))]) [0, 1, 3] rfl ?_
      exact t49  x4 x3 M h
    · have h := h.2 b9
      refine q_aload_n C 0 rfl rfl dX7_image_37 ?_
      refine q_get (v := .int (gI (M a0 1 (-1)))) C fX7_7 hk0 rfl dX7_image_38 (fun g10 => ?_)
      have h := h g10
      refine q_iconst C dX7_image_41 ?_
      refine q_isub C dX7_image_42 ?_
      refine q_iload_n C 2 rfl rfl dX7_image_43 ?_
      refine q_isub C dX7_image_44 ?_
      refine q_goto (tgt := 49) C (by decide) dX7_image_45 ?_
      refine q_lv (lv' := [(0, .ref (gad a0)), (2, .int (gI a2)), (4, .int (gI x4))]) [0, 1, 3] rfl ?_
      exact t49  x4 (((M a0 1 (-1)) - 1) - x3) M h
  unfold wX7_image at h
  refine q_iload_n C 1 rfl rfl dX7_image_0 ?_
  refine q_aload_n C 0 rfl rfl dX7_image_1 ?_
  refine q_get (v := .int (gI (M a0 1 (-1)))) C fX7_7 hk0 rfl dX7_image_2 (fun g1 => ?_)
  have h := h g1
  obtain ⟨r2, h⟩ := h
  refine q_irem C r2 dX7_image_5 ?_
  refine q_topi (fun v3 ev3 => ?_)
  have h := h v3 ev3
  refine q_istore_n (lv' := [(3, .int (gI v3)), (0, .ref (gad a0)), (1, .int (gI a1)), (2, .int (gI a2))]) C rfl (by decide) rfl dX7_image_6 ?_
  refine q_iload_n C 2 rfl rfl dX7_image_7 ?_
  refine q_aload_n C 1 rfl rfl dX7_image_8 ?_
  refine q_get (v := .int (gI (M a0 1 (-1)))) C fX7_7 hk0 rfl dX7_image_9 (fun g4 => ?_)
  refine q_idiv C r2 dX7_image_12 ?_
  refine q_topi (fun v5 ev5 => ?_)
  have h := h v5 ev5
  refine q_istore (lv' := [(4, .int (gI v5)), (3, .int (gI v3)), (0, .ref (gad a0)), (1, .int (gI a1)), (2, .int (gI a2))]) C (by decide) rfl dX7_image_13 ?_
  refine q_iload_n C 4 rfl rfl dX7_image_15 ?_
  refine q_iconst C dX7_image_16 ?_
  refine q_iand C dX7_image_17 ?_
  obtain ⟨r6, h⟩ := h
  refine q_if_eq (tgt := 31) C r6 (by decide) dX7_image_18 (fun b7 => ?_) (fun b7 => ?_)
  · have h := h.1 b7
    refine q_lv (lv' := [(0, .ref (gad a0)), (2, .int (gI a2)), (3, .int (gI v3)), (4, .int (gI v5))]) [2, 4, 1, 0] rfl ?_
    exact t31  v3 v5 M h
  · have h := h.2 b7
    refine q_iload_n C 1 rfl rfl dX7_image_21 ?_
    refine q_istore (lv' := [(5, .int (gI v3)), (4, .int (gI v5)), (3, .int (gI v3)), (0, .ref (gad a0)), (1, .int (gI a1)), (2, .int (gI a2))]) C (by decide) rfl dX7_image_22 ?_
    refine q_iload C 1 rfl dX7_image_24 ?_
    refine q_istore_n (lv' := [(3, .int (gI v5)), (5, .int (gI v3)), (4, .int (gI v5)), (0, .ref (gad a0)), (1, .int (gI a1)), (2, .int (gI a2))]) C rfl (by decide) rfl dX7_image_26 ?_
    refine q_iload C 1 rfl dX7_image_27 ?_
    refine q_istore (lv' := [(4, .int (gI v3)), (3, .int (gI v5)), (5, .int (gI v3)), (0, .ref (gad a0)), (1, .int (gI a1)), (2, .int (gI a2))]) C (by decide) rfl dX7_image_29 ?_
    refine q_lv (lv' := [(0, .ref (gad a0)), (2, .int (gI a2)), (3, .int (gI v5)), (4, .int (gI v3))]) [3, 5, 1, 0] rfl ?_
    exact t31  v5 v3 M h
set_option maxHeartbeats 4000000 in
set_option maxRecDepth 100000 in
theorem mX7_init (l : Launch) (D : va_G) (cy : Nat → ClassId) (mc ms : Nat) (kd : gKd) (ln : gLn) (rh : gRh) (post : gKd → gLn → gM → Prop) (a0 : Int) (M : gM) (hk0 : kd a0 = 7) (h : wX7_init mc ms kd ln post a0 M) : gXV l D cy yX7_init cX7_init 1 1 32 mc ms [.ref (gad a0)] kd ln rh M post := by
  refine gXV_of (own := RX7) (by decide) rfl (Nat.le_of_ble_eq_true rfl) ?_
  intro p e s m args below meth c A H0 Q C hin hret
  unfold wX7_init at h
  refine q_aload_n C 0 rfl rfl dX7_init_0 ?_
  refine q_objInit (o := a0) C obX7_1 (Nat.le_of_ble_eq_true rfl) (Nat.le_of_ble_eq_true rfl) dX7_init_1 ?_
  refine q_aload_n C 0 rfl rfl dX7_init_4 ?_
  refine q_bipush C (by decide) dX7_init_5 ?_
  refine q_put (x := 8) (ty := .int) C fX7_7 hk0 (fun _ _ _ q => by cases q; rfl) (congrArg (fun z => Value.int (gI z)) gu_s) rfl rfl (show rng 8 by decide) (fun j q => absurd (show (0 : Nat) = j + 3 from q) (by omega)) dX7_init_7 ?_
  refine q_aload_n C 0 rfl rfl dX7_init_10 ?_
  refine q_bipush C (by decide) dX7_init_11 ?_
  refine q_put (x := 64) (ty := .int) C fX7_13 hk0 (fun _ _ _ q => by cases q; rfl) (congrArg (fun z => Value.int (gI z)) gu_s) rfl rfl (show rng 64 by decide) (fun j q => absurd (show (0 : Nat) = j + 3 from q) (by omega)) dX7_init_13 ?_
  refine q_aload_n C 0 rfl rfl dX7_init_16 ?_
  refine q_iconst C dX7_init_17 ?_
  obtain ⟨r1, h⟩ := h
  obtain ⟨r2, h⟩ := h
  refine q_newput (t0 := 2) (ty := .boolean) C hin fX7_16 (fun _ _ _ q => by cases q; rfl) hk0 rfl rfl ac10 rfl (fun _ => rfl) (fun _ _ _ => rfl) (fun _ _ _ q => by cases q; rfl) r1 (show 0 ≤ (3 : Int) ∧ (3 : Int) ≤ 67108864 by decide) (by decide) r2.1 r2.2 dX7_init_18 dX7_init_20 (fun ln3 rh4 e5 kn6 => ?_)
  have h := h ln3 e5
  have kp7 := gKp_t gKp_r kn6
  refine q_aload_n C 0 rfl rfl dX7_init_23 ?_
  refine q_ldc (n := 1572864) C nX7_20 (by decide) dX7_init_24 ?_
  obtain ⟨r8, h⟩ := h
  obtain ⟨r9, h⟩ := h
  refine q_newput (t0 := 1) (ty := .byte) C hin fX7_21 (fun _ _ _ q => by cases q; rfl) (gKp_k kn6 hk0 (by decide)) rfl rfl ac9 rfl (fun _ => rfl) (fun _ _ _ => rfl) (fun _ _ _ q => by cases q; rfl) r8 (show 0 ≤ (1572864 : Int) ∧ (1572864 : Int) ≤ 67108864 by decide) (by decide) r9.1 r9.2 dX7_init_26 dX7_init_28 (fun ln10 rh11 e12 kn13 => ?_)
  have h := h ln10 e12
  have kp14 := gKp_t kp7 kn13
  refine q_aload_n C 0 rfl rfl dX7_init_31 ?_
  refine q_ldc (n := 49152) C nX7_25 (by decide) dX7_init_32 ?_
  obtain ⟨r15, h⟩ := h
  obtain ⟨r16, h⟩ := h
  refine q_newput (t0 := 0) (ty := .int) C hin fX7_26 (fun _ _ _ q => by cases q; rfl) (gKp_k kn13 (gKp_k kn6 hk0 (by decide)) (by decide)) rfl rfl ac8 rfl (fun _ => rfl) (fun _ _ _ => rfl) (fun _ _ _ q => by cases q; rfl) r15 (show 0 ≤ (49152 : Int) ∧ (49152 : Int) ≤ 67108864 by decide) (by decide) r16.1 r16.2 dX7_init_34 dX7_init_36 (fun ln17 rh18 e19 kn20 => ?_)
  have h := h ln17 e19
  have kp21 := gKp_t kp14 kn20
  refine q_aload_n C 0 rfl rfl dX7_init_39 ?_
  refine q_ldc (n := 49152) C nX7_25 (by decide) dX7_init_40 ?_
  obtain ⟨r22, h⟩ := h
  obtain ⟨r23, h⟩ := h
  refine q_newput (t0 := 0) (ty := .int) C hin fX7_30 (fun _ _ _ q => by cases q; rfl) (gKp_k kn20 (gKp_k kn13 (gKp_k kn6 hk0 (by decide)) (by decide)) (by decide)) rfl rfl ac8 rfl (fun _ => rfl) (fun _ _ _ => rfl) (fun _ _ _ q => by cases q; rfl) r22 (show 0 ≤ (49152 : Int) ∧ (49152 : Int) ≤ 67108864 by decide) (by decide) r23.1 r23.2 dX7_init_42 dX7_init_44 (fun ln24 rh25 e26 kn27 => ?_)
  have h := h ln24 e26
  have kp28 := gKp_t kp21 kn27
  refine q_aload_n C 0 rfl rfl dX7_init_47 ?_
  refine q_iconst C dX7_init_48 ?_
  obtain ⟨r29, h⟩ := h
  obtain ⟨r30, h⟩ := h
  refine q_newput (t0 := 0) (ty := .int) C hin fX7_33 (fun _ _ _ q => by cases q; rfl) (gKp_k kn27 (gKp_k kn20 (gKp_k kn13 (gKp_k kn6 hk0 (by decide)) (by decide)) (by decide)) (by decide)) rfl rfl ac8 rfl (fun _ => rfl) (fun _ _ _ => rfl) (fun _ _ _ q => by cases q; rfl) r29 (show 0 ≤ (3 : Int) ∧ (3 : Int) ≤ 67108864 by decide) (by decide) r30.1 r30.2 dX7_init_49 dX7_init_51 (fun ln31 rh32 e33 kn34 => ?_)
  have h := h ln31 e33
  have kp35 := gKp_t kp28 kn34
  refine q_aload_n C 0 rfl rfl dX7_init_54 ?_
  refine q_bipush C (by decide) dX7_init_55 ?_
  obtain ⟨r36, h⟩ := h
  obtain ⟨r37, h⟩ := h
  refine q_newput (t0 := 1) (ty := .byte) C hin fX7_36 (fun _ _ _ q => by cases q; rfl) (gKp_k kn34 (gKp_k kn27 (gKp_k kn20 (gKp_k kn13 (gKp_k kn6 hk0 (by decide)) (by decide)) (by decide)) (by decide)) (by decide)) rfl rfl ac9 rfl (fun _ => rfl) (fun _ _ _ => rfl) (fun _ _ _ q => by cases q; rfl) r36 (show 0 ≤ (40 : Int) ∧ (40 : Int) ≤ 67108864 by decide) (by decide) r37.1 r37.2 dX7_init_57 dX7_init_59 (fun ln38 rh39 e40 kn41 => ?_)
  have h := h ln38 e40
  have kp42 := gKp_t kp35 kn41
  refine q_aload_n C 0 rfl rfl dX7_init_62 ?_
  refine q_bipush C (by decide) dX7_init_63 ?_
  obtain ⟨r43, h⟩ := h
  obtain ⟨r44, h⟩ := h
  refine q_newput (t0 := 1) (ty := .byte) C hin fX7_39 (fun _ _ _ q => by cases q; rfl) (gKp_k kn41 (gKp_k kn34 (gKp_k kn27 (gKp_k kn20 (gKp_k kn13 (gKp_k kn6 hk0 (by decide)) (by decide)) (by decide)) (by decide)) (by decide)) (by decide)) rfl rfl ac9 rfl (fun _ => rfl) (fun _ _ _ => rfl) (fun _ _ _ q => by cases q; rfl) r43 (show 0 ≤ (20 : Int) ∧ (20 : Int) ≤ 67108864 by decide) (by decide) r44.1 r44.2 dX7_init_65 dX7_init_67 (fun ln45 rh46 e47 kn48 => ?_)
  have h := h ln45 e47
  have kp49 := gKp_t kp42 kn48
  refine q_aload_n C 0 rfl rfl dX7_init_70 ?_
  refine q_bipush C (by decide) dX7_init_71 ?_
  obtain ⟨r50, h⟩ := h
  obtain ⟨r51, h⟩ := h
  refine q_newput (t0 := 0) (ty := .int) C hin fX7_42 (fun _ _ _ q => by cases q; rfl) (gKp_k kn48 (gKp_k kn41 (gKp_k kn34 (gKp_k kn27 (gKp_k kn20 (gKp_k kn13 (gKp_k kn6 hk0 (by decide)) (by decide)) (by decide)) (by decide)) (by decide)) (by decide)) (by decide)) rfl rfl ac8 rfl (fun _ => rfl) (fun _ _ _ => rfl) (fun _ _ _ q => by cases q; rfl) r50 (show 0 ≤ (48 : Int) ∧ (48 : Int) ≤ 67108864 by decide) (by decide) r51.1 r51.2 dX7_init_73 dX7_init_75 (fun ln52 rh53 e54 kn55 => ?_)
  have h := h ln52 e54
  have kp56 := gKp_t kp49 kn55
  refine q_aload_n C 0 rfl rfl dX7_init_78 ?_
  refine q_bipush C (by decide) dX7_init_79 ?_
  obtain ⟨r57, h⟩ := h
  obtain ⟨r58, h⟩ := h
  refine q_newput (t0 := 0) (ty := .int) C hin fX7_45 (fun _ _ _ q => by cases q; rfl) (gKp_k kn55 (gKp_k kn48 (gKp_k kn41 (gKp_k kn34 (gKp_k kn27 (gKp_k kn20 (gKp_k kn13 (gKp_k kn6 hk0 (by decide)) (by decide)) (by decide)) (by decide)) (by decide)) (by decide)) (by decide)) (by decide)) rfl rfl ac8 rfl (fun _ => rfl) (fun _ _ _ => rfl) (fun _ _ _ q => by cases q; rfl) r57 (show 0 ≤ (48 : Int) ∧ (48 : Int) ≤ 67108864 by decide) (by decide) r58.1 r58.2 dX7_init_81 dX7_init_83 (fun ln59 rh60 e61 kn62 => ?_)
  have h := h ln59 e61
  have kp63 := gKp_t kp56 kn62
  refine q_aload_n C 0 rfl rfl dX7_init_86 ?_
  refine q_bipush C (by decide) dX7_init_87 ?_
  obtain ⟨r64, h⟩ := h
  obtain ⟨r65, h⟩ := h
  refine q_newput (t0 := 0) (ty := .int) C hin fX7_48 (fun _ _ _ q => by cases q; rfl) (gKp_k kn62 (gKp_k kn55 (gKp_k kn48 (gKp_k kn41 (gKp_k kn34 (gKp_k kn27 (gKp_k kn20 (gKp_k kn13 (gKp_k kn6 hk0 (by decide)) (by decide)) (by decide)) (by decide)) (by decide)) (by decide)) (by decide)) (by decide)) (by decide)) rfl rfl ac8 rfl (fun _ => rfl) (fun _ _ _ => rfl) (fun _ _ _ q => by cases q; rfl) r64 (show 0 ≤ (48 : Int) ∧ (48 : Int) ≤ 67108864 by decide) (by decide) r65.1 r65.2 dX7_init_89 dX7_init_91 (fun ln66 rh67 e68 kn69 => ?_)
  have h := h ln66 e68
  have kp70 := gKp_t kp63 kn69
  refine q_aload_n C 0 rfl rfl dX7_init_94 ?_
  refine q_bipush C (by decide) dX7_init_95 ?_
  obtain ⟨r71, h⟩ := h
  obtain ⟨r72, h⟩ := h
  refine q_newput (t0 := 0) (ty := .int) C hin fX7_51 (fun _ _ _ q => by cases q; rfl) (gKp_k kn69 (gKp_k kn62 (gKp_k kn55 (gKp_k kn48 (gKp_k kn41 (gKp_k kn34 (gKp_k kn27 (gKp_k kn20 (gKp_k kn13 (gKp_k kn6 hk0 (by decide)) (by decide)) (by decide)) (by decide)) (by decide)) (by decide)) (by decide)) (by decide)) (by decide)) (by decide)) rfl rfl ac8 rfl (fun _ => rfl) (fun _ _ _ => rfl) (fun _ _ _ q => by cases q; rfl) r71 (show 0 ≤ (48 : Int) ∧ (48 : Int) ≤ 67108864 by decide) (by decide) r72.1 r72.2 dX7_init_97 dX7_init_99 (fun ln73 rh74 e75 kn76 => ?_)
  have h := h ln73 e75
  have kp77 := gKp_t kp70 kn76
  refine q_aload_n C 0 rfl rfl dX7_init_102 ?_
  refine q_bipush C (by decide) dX7_init_103 ?_
  obtain ⟨r78, h⟩ := h
  obtain ⟨r79, h⟩ := h
  refine q_newput (t0 := 0) (ty := .int) C hin fX7_54 (fun _ _ _ q => by cases q; rfl) (gKp_k kn76 (gKp_k kn69 (gKp_k kn62 (gKp_k kn55 (gKp_k kn48 (gKp_k kn41 (gKp_k kn34 (gKp_k kn27 (gKp_k kn20 (gKp_k kn13 (gKp_k kn6 hk0 (by decide)) (by decide)) (by decide)) (by decide)) (by decide)) (by decide)) (by decide)) (by decide)) (by decide)) (by decide)) (by decide)) rfl rfl ac8 rfl (fun _ => rfl) (fun _ _ _ => rfl) (fun _ _ _ q => by cases q; rfl) r78 (show 0 ≤ (48 : Int) ∧ (48 : Int) ≤ 67108864 by decide) (by decide) r79.1 r79.2 dX7_init_105 dX7_init_107 (fun ln80 rh81 e82 kn83 => ?_)
  have h := h ln80 e82
  have kp84 := gKp_t kp77 kn83
  refine q_aload_n C 0 rfl rfl dX7_init_110 ?_
  refine q_bipush C (by decide) dX7_init_111 ?_
  obtain ⟨r85, h⟩ := h
  obtain ⟨r86, h⟩ := h
  refine q_newput (t0 := 0) (ty := .int) C hin fX7_57 (fun _ _ _ q => by cases q; rfl) (gKp_k kn83 (gKp_k kn76 (gKp_k kn69 (gKp_k kn62 (gKp_k kn55 (gKp_k kn48 (gKp_k kn41 (gKp_k kn34 (gKp_k kn27 (gKp_k kn20 (gKp_k kn13 (gKp_k kn6 hk0 (by decide)) (by decide)) (by decide)) (by decide)) (by decide)) (by decide)) (by decide)) (by decide)) (by decide)) (by decide)) (by decide)) (by decide)) rfl rfl ac8 rfl (fun _ => rfl) (fun _ _ _ => rfl) (fun _ _ _ q => by cases q; rfl) r85 (show 0 ≤ (48 : Int) ∧ (48 : Int) ≤ 67108864 by decide) (by decide) r86.1 r86.2 dX7_init_113 dX7_init_115 (fun ln87 rh88 e89 kn90 => ?_)
  have h := h ln87 e89
  have kp91 := gKp_t kp84 kn90
  refine q_aload_n C 0 rfl rfl dX7_init_118 ?_
  refine q_bipush C (by decide) dX7_init_119 ?_
  obtain ⟨r92, h⟩ := h
  obtain ⟨r93, h⟩ := h
  refine q_newput (t0 := 0) (ty := .int) C hin fX7_60 (fun _ _ _ q => by cases q; rfl) (gKp_k kn90 (gKp_k kn83 (gKp_k kn76 (gKp_k kn69 (gKp_k kn62 (gKp_k kn55 (gKp_k kn48 (gKp_k kn41 (gKp_k kn34 (gKp_k kn27 (gKp_k kn20 (gKp_k kn13 (gKp_k kn6 hk0 (by decide)) (by decide)) (by decide)) (by decide)) (by decide)) (by decide)) (by decide)) (by decide)) (by decide)) (by decide)) (by decide)) (by decide)) (by decide)) rfl rfl ac8 rfl (fun _ => rfl) (fun _ _ _ => rfl) (fun _ _ _ q => by cases q; rfl) r92 (show 0 ≤ (48 : Int) ∧ (48 : Int) ≤ 67108864 by decide) (by decide) r93.1 r93.2 dX7_init_121 dX7_init_123 (fun ln94 rh95 e96 kn97 => ?_)
  have h := h ln94 e96
  have kp98 := gKp_t kp91 kn97
  refine q_aload_n C 0 rfl rfl dX7_init_126 ?_
  refine q_bipush C (by decide) dX7_init_127 ?_
  obtain ⟨r99, h⟩ := h
  obtain ⟨r100, h⟩ := h
  refine q_newput (t0 := 0) (ty := .int) C hin fX7_63 (fun _ _ _ q => by cases q; rfl) (gKp_k kn97 (gKp_k kn90 (gKp_k kn83 (gKp_k kn76 (gKp_k kn69 (gKp_k kn62 (gKp_k kn55 (gKp_k kn48 (gKp_k kn41 (gKp_k kn34 (gKp_k kn27 (gKp_k kn20 (gKp_k kn13 (gKp_k kn6 hk0 (by decide)) (by decide)) (by decide)) (by decide)) (by decide)) (by decide)) (by decide)) (by decide)) (by decide)) (by decide)) (by decide)) (by decide)) (by decide)) (by decide)) rfl rfl ac8 rfl (fun _ => rfl) (fun _ _ _ => rfl) (fun _ _ _ q => by cases q; rfl) r99 (show 0 ≤ (48 : Int) ∧ (48 : Int) ≤ 67108864 by decide) (by decide) r100.1 r100.2 dX7_init_129 dX7_init_131 (fun ln101 rh102 e103 kn104 => ?_)
  have h := h ln101 e103
  have kp105 := gKp_t kp98 kn104
  refine q_aload_n C 0 rfl rfl dX7_init_134 ?_
  refine q_bipush C (by decide) dX7_init_135 ?_
  obtain ⟨r106, h⟩ := h
  obtain ⟨r107, h⟩ := h
  refine q_newput (t0 := 0) (ty := .int) C hin fX7_66 (fun _ _ _ q => by cases q; rfl) (gKp_k kn104 (gKp_k kn97 (gKp_k kn90 (gKp_k kn83 (gKp_k kn76 (gKp_k kn69 (gKp_k kn62 (gKp_k kn55 (gKp_k kn48 (gKp_k kn41 (gKp_k kn34 (gKp_k kn27 (gKp_k kn20 (gKp_k kn13 (gKp_k kn6 hk0 (by decide)) (by decide)) (by decide)) (by decide)) (by decide)) (by decide)) (by decide)) (by decide)) (by decide)) (by decide)) (by decide)) (by decide)) (by decide)) (by decide)) (by decide)) rfl rfl ac8 rfl (fun _ => rfl) (fun _ _ _ => rfl) (fun _ _ _ q => by cases q; rfl) r106 (show 0 ≤ (48 : Int) ∧ (48 : Int) ≤ 67108864 by decide) (by decide) r107.1 r107.2 dX7_init_137 dX7_init_139 (fun ln108 rh109 e110 kn111 => ?_)
  have h := h ln108 e110
  have kp112 := gKp_t kp105 kn111
  refine q_aload_n C 0 rfl rfl dX7_init_142 ?_
  refine q_bipush C (by decide) dX7_init_143 ?_
  obtain ⟨r113, h⟩ := h
  obtain ⟨r114, h⟩ := h
  refine q_newput (t0 := 0) (ty := .int) C hin fX7_69 (fun _ _ _ q => by cases q; rfl) (gKp_k kn111 (gKp_k kn104 (gKp_k kn97 (gKp_k kn90 (gKp_k kn83 (gKp_k kn76 (gKp_k kn69 (gKp_k kn62 (gKp_k kn55 (gKp_k kn48 (gKp_k kn41 (gKp_k kn34 (gKp_k kn27 (gKp_k kn20 (gKp_k kn13 (gKp_k kn6 hk0 (by decide)) (by decide)) (by decide)) (by decide)) (by decide)) (by decide)) (by decide)) (by decide)) (by decide)) (by decide)) (by decide)) (by decide)) (by decide)) (by decide)) (by decide)) (by decide)) rfl rfl ac8 rfl (fun _ => rfl) (fun _ _ _ => rfl) (fun _ _ _ q => by cases q; rfl) r113 (show 0 ≤ (48 : Int) ∧ (48 : Int) ≤ 67108864 by decide) (by decide) r114.1 r114.2 dX7_init_145 dX7_init_147 (fun ln115 rh116 e117 kn118 => ?_)
  have h := h ln115 e117
  have kp119 := gKp_t kp112 kn118
  refine q_aload_n C 0 rfl rfl dX7_init_150 ?_
  refine q_bipush C (by decide) dX7_init_151 ?_
  obtain ⟨r120, h⟩ := h
  obtain ⟨r121, h⟩ := h
  refine q_newput (t0 := 0) (ty := .int) C hin fX7_72 (fun _ _ _ q => by cases q; rfl) (gKp_k kn118 (gKp_k kn111 (gKp_k kn104 (gKp_k kn97 (gKp_k kn90 (gKp_k kn83 (gKp_k kn76 (gKp_k kn69 (gKp_k kn62 (gKp_k kn55 (gKp_k kn48 (gKp_k kn41 (gKp_k kn34 (gKp_k kn27 (gKp_k kn20 (gKp_k kn13 (gKp_k kn6 hk0 (by decide)) (by decide)) (by decide)) (by decide)) (by decide)) (by decide)) (by decide)) (by decide)) (by decide)) (by decide)) (by decide)) (by decide)) (by decide)) (by decide)) (by decide)) (by decide)) (by decide)) rfl rfl ac8 rfl (fun _ => rfl) (fun _ _ _ => rfl) (fun _ _ _ q => by cases q; rfl) r120 (show 0 ≤ (48 : Int) ∧ (48 : Int) ≤ 67108864 by decide) (by decide) r121.1 r121.2 dX7_init_153 dX7_init_155 (fun ln122 rh123 e124 kn125 => ?_)
  have h := h ln122 e124
  have kp126 := gKp_t kp119 kn125
  refine q_aload_n C 0 rfl rfl dX7_init_158 ?_
  refine q_iconst C dX7_init_159 ?_
  refine q_put (x := (-1)) (ty := .int) C fX7_75 (gKp_k kn125 (gKp_k kn118 (gKp_k kn111 (gKp_k kn104 (gKp_k kn97 (gKp_k kn90 (gKp_k kn83 (gKp_k kn76 (gKp_k kn69 (gKp_k kn62 (gKp_k kn55 (gKp_k kn48 (gKp_k kn41 (gKp_k kn34 (gKp_k kn27 (gKp_k kn20 (gKp_k kn13 (gKp_k kn6 hk0 (by decide)) (by decide)) (by decide)) (by decide)) (by decide)) (by decide)) (by decide)) (by decide)) (by decide)) (by decide)) (by decide)) (by decide)) (by decide)) (by decide)) (by decide)) (by decide)) (by decide)) (by decide)) (fun _ _ _ q => by cases q; rfl) (congrArg (fun z => Value.int (gI z)) gu_s) rfl rfl (show rng (-1) by decide) (fun j q => absurd (show (0 : Nat) = j + 3 from q) (by omega)) dX7_init_160 ?_
  refine q_aload_n C 0 rfl rfl dX7_init_163 ?_
  refine q_sipush C (by decide) dX7_init_164 ?_
  obtain ⟨r127, h⟩ := h
  obtain ⟨r128, h⟩ := h
  refine q_newput (t0 := 0) (ty := .int) C hin fX7_78 (fun _ _ _ q => by cases q; rfl) (gKp_k kn125 (gKp_k kn118 (gKp_k kn111 (gKp_k kn104 (gKp_k kn97 (gKp_k kn90 (gKp_k kn83 (gKp_k kn76 (gKp_k kn69 (gKp_k kn62 (gKp_k kn55 (gKp_k kn48 (gKp_k kn41 (gKp_k kn34 (gKp_k kn27 (gKp_k kn20 (gKp_k kn13 (gKp_k kn6 hk0 (by decide)) (by decide)) (by decide)) (by decide)) (by decide)) (by decide)) (by decide)) (by decide)) (by decide)) (by decide)) (by decide)) (by decide)) (by decide)) (by decide)) (by decide)) (by decide)) (by decide)) (by decide)) rfl rfl ac8 rfl (fun _ => rfl) (fun _ _ _ => rfl) (fun _ _ _ q => by cases q; rfl) r127 (show 0 ≤ (640 : Int) ∧ (640 : Int) ≤ 67108864 by decide) (by decide) r128.1 r128.2 dX7_init_167 dX7_init_169 (fun ln129 rh130 e131 kn132 => ?_)
  have h := h ln129 e131
  have kp133 := gKp_t kp126 kn132
  exact hret kd ln129 rh130 (gza (gu (gza (gza (gza (gza (gza (gza (gza (gza (gza (gza (gza (gza (gza (gza (gza (gza (gza (gza (gu (gu M a0 1 (-1) 8) a0 2 (-1) 64) a0 3) a0 4) a0 5) a0 6) a0 7) a0 8) a0 10) a0 13) a0 14) a0 15) a0 16) a0 17) a0 18) a0 19) a0 22) a0 23) a0 24) a0 25) a0 26 (-1) (-1)) a0 27) _ _ _ _ r128.1 r128.2 kp133 dX7_init_172 h
set_option maxHeartbeats 4000000 in
set_option maxRecDepth 100000 in
theorem mX7_isLegal (l : Launch) (D : va_G) (cy : Nat → ClassId) (kd : gKd) (ln : gLn) (rh : gRh) (post : Int → gM → Prop) (a0 : Int) (a1 : Int) (a2 : Int) (a3 : Int) (a4 : Int) (a5 : Int) (M : gM) (hk0 : kd a0 = 7) (h : wX7_isLegal kd ln post a0 a1 a2 a3 a4 a5 M) : gMI l D cy yX7_isLegal cX7_isLegal 6 .boolean 4 100 [.ref (gad a0), .int (gI a1), .int (gI a2), .int (gI a3), .int (gI a4), .int (gI a5)] kd ln rh M post := by
  refine gMI_ofZ (own := RX7) (by decide) rfl (Nat.le_of_ble_eq_true rfl) ?_
  intro p e s m args below meth c A H0 Q C hret
  unfold wX7_isLegal at h
  refine q_aload_n C 0 rfl rfl dX7_isLegal_0 ?_
  refine q_iconst C dX7_isLegal_1 ?_
  refine q_put (x := 0) (ty := .int) C fX7_81 hk0 (fun _ _ _ q => by cases q; rfl) (congrArg (fun z => Value.int (gI z)) gu_s) rfl rfl (show rng 0 by decide) (fun j q => absurd (show (0 : Nat) = j + 3 from q) (by omega)) dX7_isLegal_2 ?_
  refine q_aload_n C 0 rfl rfl dX7_isLegal_5 ?_
  refine q_iload_n C 1 rfl rfl dX7_isLegal_6 ?_
  refine q_iload_n C 2 rfl rfl dX7_isLegal_7 ?_
  refine q_iload_n C 3 rfl rfl dX7_isLegal_8 ?_
  refine q_iload C 4 rfl dX7_isLegal_9 ?_
  refine q_iload C 5 rfl dX7_isLegal_11 ?_
  refine q_callVI (As := [.int (gI a1), .int (gI a2), .int (gI a3), .int (gI a4), .int (gI a5)]) (st := []) C vX7_183 kX7_areNumbers ⟨Nat.le_of_ble_eq_true rfl, Nat.le_of_ble_eq_true rfl⟩ ⟨Nat.le_of_ble_eq_true rfl, Nat.le_of_ble_eq_true rfl⟩ rfl hk0 ⟨_, _, rfl⟩ (by decide) rfl (Nat.le_of_ble_eq_true rfl) (mX7_areNumbers l D cy kd ln rh _ a0 a1 a2 a3 a4 a5 (gu M a0 0 (-1) 0) hk0 h) dX7_isLegal_13 (fun c2 M1 g3 h => ?_)
  have h := h g3
  refine q_if_eq (tgt := 37) C g3 (by decide) dX7_isLegal_16 (fun b4 => ?_) (fun b4 => ?_)
  · have h := h.1 b4
    refine q_iconst C dX7_isLegal_37 ?_
    exact hret 0 M1 _ _ dX7_isLegal_38 (Or.inl rfl) h
  · have h := h.2 b4
    refine q_aload_n C 0 rfl rfl dX7_isLegal_19 ?_
    refine q_iload_n C 1 rfl rfl dX7_isLegal_20 ?_
    refine q_iload_n C 2 rfl rfl dX7_isLegal_21 ?_
    refine q_iload_n C 3 rfl rfl dX7_isLegal_22 ?_
    refine q_iload C 4 rfl dX7_isLegal_23 ?_
    refine q_iload C 5 rfl dX7_isLegal_25 ?_
    refine q_callVI (As := [.int (gI a1), .int (gI a2), .int (gI a3), .int (gI a4), .int (gI a5)]) (st := []) C vX7_107 kX7_legal ⟨Nat.le_of_ble_eq_true rfl, Nat.le_of_ble_eq_true rfl⟩ ⟨Nat.le_of_ble_eq_true rfl, Nat.le_of_ble_eq_true rfl⟩ rfl hk0 ⟨_, _, rfl⟩ (by decide) rfl (Nat.le_of_ble_eq_true rfl) (mX7_legal l D cy kd ln rh _ a0 a1 a2 a3 a4 a5 M1 hk0 h) dX7_isLegal_27 (fun c6 M5 g7 h => ?_)
    have h := h g7
    refine q_if_eq (tgt := 37) C g7 (by decide) dX7_isLegal_30 (fun b8 => ?_) (fun b8 => ?_)
    · have h := h.1 b8
      refine q_iconst C dX7_isLegal_37 ?_
      exact hret 0 M5 _ _ dX7_isLegal_38 (Or.inl rfl) h
    · have h := h.2 b8
      refine q_iconst C dX7_isLegal_33 ?_
      refine q_goto (tgt := 38) C (by decide) dX7_isLegal_34 ?_
      exact hret 1 M5 _ _ dX7_isLegal_38 (Or.inr rfl) h
set_option maxHeartbeats 4000000 in
set_option maxRecDepth 100000 in
theorem mX7_keep (l : Launch) (D : va_G) (cy : Nat → ClassId) (kd : gKd) (ln : gLn) (rh : gRh) (post : gM → Prop) (a0 : Int) (a1 : Int) (a2 : Int) (a3 : Int) (a4 : Int) (a5 : Int) (a6 : Int) (M : gM) (hk0 : kd a0 = 7) (h : wX7_keep kd ln post a0 a1 a2 a3 a4 a5 a6 M) : gMV l D cy yX7_keep cX7_keep 7 0 0 [.ref (gad a0), .int (gI a1), .int (gI a2), .int (gI a3), .int (gI a4), .int (gI a5), .int (gI a6)] kd ln rh M post := by
  refine gMV_of (own := RX7) (by decide) rfl (Nat.le_of_ble_eq_true rfl) ?_
  intro p e s m args below meth c A H0 Q C hret
  unfold wX7_keep at h
  refine q_aload_n C 0 rfl rfl dX7_keep_0 ?_
  obtain ⟨r1, h⟩ := h
  refine q_get (v := .ref (rh a0 27)) C fX7_78 hk0 (if_neg (Int.not_lt.mpr r1)) dX7_keep_1 (fun g2 => ?_)
  refine q_iconst C dX7_keep_4 ?_
  refine q_iload_n C 1 rfl rfl dX7_keep_5 ?_
  refine q_imul C dX7_keep_6 ?_
  refine q_iload_n C 2 rfl rfl dX7_keep_7 ?_
  obtain ⟨r3, h⟩ := h
  obtain ⟨r4, h⟩ := h
  refine q_iast C hk0 rfl r4 r3 dX7_keep_8 ?_
  refine q_aload_n C 0 rfl rfl dX7_keep_9 ?_
  refine q_get (v := .ref (rh a0 27)) C fX7_78 hk0 (if_neg (Int.not_lt.mpr r1)) dX7_keep_10 (fun g5 => ?_)
  refine q_iconst C dX7_keep_13 ?_
  refine q_iload_n C 1 rfl rfl dX7_keep_14 ?_
  refine q_imul C dX7_keep_15 ?_
  refine q_iconst C dX7_keep_16 ?_
  refine q_iadd C dX7_keep_17 ?_
  refine q_iload_n C 3 rfl rfl dX7_keep_18 ?_
  obtain ⟨r6, h⟩ := h
  obtain ⟨r7, h⟩ := h
  refine q_iast C hk0 rfl r7 r6 dX7_keep_19 ?_
  refine q_aload_n C 0 rfl rfl dX7_keep_20 ?_
  refine q_get (v := .ref (rh a0 27)) C fX7_78 hk0 (if_neg (Int.not_lt.mpr r1)) dX7_keep_21 (fun g8 => ?_)
  refine q_iconst C dX7_keep_24 ?_
  refine q_iload_n C 1 rfl rfl dX7_keep_25 ?_
  refine q_imul C dX7_keep_26 ?_
  refine q_iconst C dX7_keep_27 ?_
  refine q_iadd C dX7_keep_28 ?_
  refine q_iload C 4 rfl dX7_keep_29 ?_
  obtain ⟨r9, h⟩ := h
  obtain ⟨r10, h⟩ := h
  refine q_iast C hk0 rfl r10 r9 dX7_keep_31 ?_
  refine q_aload_n C 0 rfl rfl dX7_keep_32 ?_
  refine q_get (v := .ref (rh a0 27)) C fX7_78 hk0 (if_neg (Int.not_lt.mpr r1)) dX7_keep_33 (fun g11 => ?_)
  refine q_iconst C dX7_keep_36 ?_
  refine q_iload_n C 1 rfl rfl dX7_keep_37 ?_
  refine q_imul C dX7_keep_38 ?_
  refine q_iconst C dX7_keep_39 ?_
  refine q_iadd C dX7_keep_40 ?_
  refine q_iload C 5 rfl dX7_keep_41 ?_
  obtain ⟨r12, h⟩ := h
  obtain ⟨r13, h⟩ := h
  refine q_iast C hk0 rfl r13 r12 dX7_keep_43 ?_
  refine q_aload_n C 0 rfl rfl dX7_keep_44 ?_
  refine q_get (v := .ref (rh a0 27)) C fX7_78 hk0 (if_neg (Int.not_lt.mpr r1)) dX7_keep_45 (fun g14 => ?_)
  refine q_iconst C dX7_keep_48 ?_
  refine q_iload_n C 1 rfl rfl dX7_keep_49 ?_
  refine q_imul C dX7_keep_50 ?_
  refine q_iconst C dX7_keep_51 ?_
  refine q_iadd C dX7_keep_52 ?_
  refine q_iload C 6 rfl dX7_keep_53 ?_
  obtain ⟨r15, h⟩ := h
  obtain ⟨r16, h⟩ := h
  refine q_iast C hk0 rfl r16 r15 dX7_keep_55 ?_
  exact hret (gu (gu (gu (gu (gu M a0 27 (5 * a1) a2) a0 27 ((5 * a1) + 1) a3) a0 27 ((5 * a1) + 2) a4) a0 27 ((5 * a1) + 3) a5) a0 27 ((5 * a1) + 4) a6) _ _ dX7_keep_56 h
set_option maxHeartbeats 4000000 in
set_option maxRecDepth 100000 in
theorem mX7_layer (l : Launch) (D : va_G) (cy : Nat → ClassId) (kd : gKd) (ln : gLn) (rh : gRh) (post : gM → Prop) (a0 : Int) (a1 : Int) (a2 : Int) (M : gM) (hk0 : kd a0 = 7) (h : wX7_layer kd ln post a0 a1 a2 M) : gMV l D cy yX7_layer cX7_layer 7 7 182 [.ref (gad a0), .int (gI a1), .int (gI a2)] kd ln rh M post := by
  refine gMV_of (own := RX7) (by decide) rfl (Nat.le_of_ble_eq_true rfl) ?_
  intro p e s m args below meth c A H0 Q C hret
  have t97 : ∀ (k7 : Int → Int → gM → Prop), (∀ (x3 : Int), ∀ (x4 : Int), ∀ (M : gM), k7 x3 x4 M → gW p l e (gRm 7 182) s m args below meth c D cy A H0 Q 7 kd ln rh 0 0 M 7 [(0, .ref (gad a0)), (1, .int (gI a1)), (2, .int (gI a2)), (3, .int (gI x3)), (4, .int (gI x4))] []) → ∀ (k19 : Int → Int → Int → gM → Prop), (∀ (x3 : Int), ∀ (x4 : Int), ∀ (x5 : Int), ∀ (M : gM), k19 x3 x4 x5 M → gW p l e (gRm 7 182) s m args below meth c D cy A H0 Q 7 kd ln rh 0 0 M 19 [(0, .ref (gad a0)), (1, .int (gI a1)), (2, .int (gI a2)), (3, .int (gI x3)), (4, .int (gI x4)), (5, .int (gI x5))] []) → ∀ (k31 : Int → Int → Int → Int → gM → Prop), (∀ (x3 : Int), ∀ (x4 : Int), ∀ (x5 : Int), ∀ (x6 : Int), ∀ (M : gM), k31 x3 x4 x5 x6 M → gW p l e (gRm 7 182) s m args below meth c D cy A H0 Q 7 kd ln rh 0 0 M 31 [(0, .ref (gad a0)), (1, .int (gI a1)), (2, .int (gI a2)), (3, .int (gI x3)), (4, .int (gI x4)), (5, .int (gI x5)), (6, .int (gI x6))] []) → ∀ (x3 : Int) (x4 : Int) (x5 : Int) (x6 : Int) (M : gM), wX7_layer_97 kd ln post a0 a1 a2 k7 k19 k31 x3 x4 x5 x6 M → gW p l e (gRm 7 182) s m args below meth c D cy A H0 Q 7 kd ln rh 0 0 M 97 [(0, .ref (gad a0)), (1, .int (gI a1)), (2, .int (gI a2)), (3, .int (gI x3)), (4, .int (gI x4)), (5, .int (gI x5)), (6, .int (gI x6))] [] := by
    intro k7 hk7_ k19 hk19_ k31 hk31_ x3 x4 x5 x6 M h
    unfold wX7_layer_97 at h
    refine q_iinc (lv' := [(6, .int (gI (x6 + 1))), (0, .ref (gad a0)), (1, .int (gI a1)), (2, .int (gI a2)), (3, .int (gI x3)), (4, .int (gI x4)), (5, .int (gI x5))]) C 6 rfl (by decide) rfl dX7_layer_97 ?_
    refine q_goto (tgt := 31) C (by decide) dX7_layer_100 ?_
    refine q_lv (lv' := [(0, .ref (gad a0)), (1, .int (gI a1)), (2, .int (gI a2)), (3, .int (gI x3)), (4, .int (gI x4)), (5, .int (gI x5)), (6, .int (gI (x6 + 1)))]) [1, 2, 3, 4, 5, 6, 0] rfl ?_
    exact hk31_ x3 x4 x5 (x6 + 1) M h
  have t31 : ∀ (k7 : Int → Int → gM → Prop), (∀ (x3 : Int), ∀ (x4 : Int), ∀ (M : gM), k7 x3 x4 M → gW p l e (gRm 7 182) s m args below meth c D cy A H0 Q 7 kd ln rh 0 0 M 7 [(0, .ref (gad a0)), (1, .int (gI a1)), (2, .int (gI a2)), (3, .int (gI x3)), (4, .int (gI x4))] []) → ∀ (k19 : Int → Int → Int → gM → Prop), (∀ (x3 : Int), ∀ (x4 : Int), ∀ (x5 : Int), ∀ (M : gM), k19 x3 x4 x5 M → gW p l e (gRm 7 182) s m args below meth c D cy A H0 Q 7 kd ln rh 0 0 M 19 [(0, .ref (gad a0)), (1, .int (gI a1)), (2, .int (gI a2)), (3, .int (gI x3)), (4, .int (gI x4)), (5, .int (gI x5))] []) → ∀ (n : Nat) (x3 : Int) (x4 : Int) (x5 : Int) (x6 : Int) (M : gM), wX7_layer_31 kd ln post a0 a1 a2 k7 k19 n x3 x4 x5 x6 M → gW p l e (gRm 7 182) s m args below meth c D cy A H0 Q 7 kd ln rh 0 0 M 31 [(0, .ref (gad a0)), (1, .int (gI a1)), (2, .int (gI a2)), (3, .int (gI x3)), (4, .int (gI x4)), (5, .int (gI x5)), (6, .int (gI x6))] [] := by
    intro k7 hk7_ k19 hk19_
    intro n
    induction n with
    | zero => intro x3 x4 x5 x6 M h; exact absurd h (by simp [wX7_layer_31])
    | succ n ih =>
      intro x3 x4 x5 x6 M h
      have hk31_ := ih
      rw [wX7_layer_31] at h
      refine q_iload C 6 rfl dX7_layer_31 ?_
      refine q_aload_n C 0 rfl rfl dX7_layer_33 ?_
      refine q_get (v := .int (gI (M a0 2 (-1)))) C fX7_13 hk0 rfl dX7_layer_34 (fun g9 => ?_)
      have h := h g9
      obtain ⟨r10, h⟩ := h
      refine q_icmp_ge (tgt := 103) C r10 g9 (by decide) dX7_layer_37 (fun b11 => ?_) (fun b11 => ?_)
      · have h := h.1 b11
        refine q_iinc (lv' := [(5, .int (gI (x5 + 1))), (0, .ref (gad a0)), (1, .int (gI a1)), (2, .int (gI a2)), (3, .int (gI x3)), (4, .int (gI x4)), (6, .int (gI x6))]) C 5 rfl (by decide) rfl dX7_layer_103 ?_
        refine q_goto (tgt := 19) C (by decide) dX7_layer_106 ?_
        refine q_lv (lv' := [(0, .ref (gad a0)), (1, .int (gI a1)), (2, .int (gI a2)), (3, .int (gI x3)), (4, .int (gI x4)), (5, .int (gI (x5 + 1)))]) [1, 2, 3, 4, 5, 0] rfl ?_
        exact hk19_ x3 x4 (x5 + 1) M h
      · have h := h.2 b11
        refine q_aload_n C 0 rfl rfl dX7_layer_40 ?_
        obtain ⟨r12, h⟩ := h
        refine q_get (v := .ref (rh a0 4)) C fX7_21 hk0 (if_neg (Int.not_lt.mpr r12)) dX7_layer_41 (fun g13 => ?_)
        refine q_ldc (n := 524288) C nX7_118 (by decide) dX7_layer_44 ?_
        refine q_iload_n C 1 rfl rfl dX7_layer_46 ?_
        refine q_imul C dX7_layer_47 ?_
        refine q_aload_n C 0 rfl rfl dX7_layer_48 ?_
        refine q_iload C 4 rfl dX7_layer_49 ?_
        refine q_iload C 5 rfl dX7_layer_51 ?_
        refine q_iload C 6 rfl dX7_layer_53 ?_
        refine q_iload_n C 3 rfl rfl dX7_layer_55 ?_
        refine q_callVI (As := [.int (gI x4), .int (gI x5), .int (gI x6), .int (gI x3)]) (st := [.int (gI (524288 * a1)), .ref (rh a0 4)]) C vX7_119 kX7_key ⟨Nat.le_of_ble_eq_true rfl, Nat.le_of_ble_eq_true rfl⟩ ⟨Nat.le_of_ble_eq_true rfl, Nat.le_of_ble_eq_true rfl⟩ rfl hk0 ⟨_, _, rfl⟩ (by decide) rfl (Nat.le_of_ble_eq_true rfl) (mX7_key l D cy kd ln rh _ a0 x4 x5 x6 x3 M hk0 h) dX7_layer_56 (fun c15 M14 g16 h => ?_)
        have h := h g16
        refine q_iadd C dX7_layer_59 ?_
        obtain ⟨r17, h⟩ := h
        refine q_bald C hk0 rfl (fun _ q => q) r17 dX7_layer_60 (fun g18 => ?_)
        have h := h g18
        refine q_iload_n C 2 rfl rfl dX7_layer_61 ?_
        obtain ⟨r19, h⟩ := h
        refine q_icmp_ne (tgt := 97) C g18 r19 (by decide) dX7_layer_62 (fun b20 => ?_) (fun b20 => ?_)
        · have h := h.1 b20
          exact t97 k7 hk7_ k19 hk19_ (wX7_layer_31 kd ln post a0 a1 a2 k7 k19 n) hk31_ x3 x4 x5 x6 M14 h
        · have h := h.2 b20
          refine q_iload_n C 3 rfl rfl dX7_layer_65 ?_
          refine q_iconst C dX7_layer_66 ?_
          obtain ⟨r21, h⟩ := h
          refine q_icmp_ne (tgt := 85) C r21 (show rng 1 by decide) (by decide) dX7_layer_67 (fun b22 => ?_) (fun b22 => ?_)
          · have h := h.1 b22
            refine q_aload_n C 0 rfl rfl dX7_layer_85 ?_
            refine q_iload_n C 1 rfl rfl dX7_layer_86 ?_
            refine q_iload C 4 rfl dX7_layer_87 ?_
            refine q_iload C 5 rfl dX7_layer_89 ?_
            refine q_iload C 6 rfl dX7_layer_91 ?_
            refine q_iload_n C 2 rfl rfl dX7_layer_93 ?_
            refine q_callVV (As := [.int (gI a1), .int (gI x4), .int (gI x5), .int (gI x6), .int (gI a2)]) (st := []) C vX7_156 kX7_backBlack ⟨Nat.le_of_ble_eq_true rfl, Nat.le_of_ble_eq_true rfl⟩ ⟨Nat.le_of_ble_eq_true rfl, Nat.le_of_ble_eq_true rfl⟩ rfl hk0 ⟨_, _, rfl⟩ (by decide) rfl (Nat.le_of_ble_eq_true rfl) (mX7_backBlack l D cy kd ln rh _ a0 a1 x4 x5 x6 a2 M14 hk0 h) dX7_layer_94 (fun M23 h => ?_)
            exact t97 k7 hk7_ k19 hk19_ (wX7_layer_31 kd ln post a0 a1 a2 k7 k19 n) hk31_ x3 x4 x5 x6 M23 h
          · have h := h.2 b22
            refine q_aload_n C 0 rfl rfl dX7_layer_70 ?_
            refine q_iload_n C 1 rfl rfl dX7_layer_71 ?_
            refine q_iload C 4 rfl dX7_layer_72 ?_
            refine q_iload C 5 rfl dX7_layer_74 ?_
            refine q_iload C 6 rfl dX7_layer_76 ?_
            refine q_iload_n C 2 rfl rfl dX7_layer_78 ?_
            refine q_callVV (As := [.int (gI a1), .int (gI x4), .int (gI x5), .int (gI x6), .int (gI a2)]) (st := []) C vX7_153 kX7_backWhite ⟨Nat.le_of_ble_eq_true rfl, Nat.le_of_ble_eq_true rfl⟩ ⟨Nat.le_of_ble_eq_true rfl, Nat.le_of_ble_eq_true rfl⟩ rfl hk0 ⟨_, _, rfl⟩ (by decide) rfl (Nat.le_of_ble_eq_true rfl) (mX7_backWhite l D cy kd ln rh _ a0 a1 x4 x5 x6 a2 M14 hk0 h) dX7_layer_79 (fun M26 h => ?_)
            refine q_goto (tgt := 97) C (by decide) dX7_layer_82 ?_
            exact t97 k7 hk7_ k19 hk19_ (wX7_layer_31 kd ln post a0 a1 a2 k7 k19 n) hk31_ x3 x4 x5 x6 M26 h
  have t19 : ∀ (k7 : Int → Int → gM → Prop), (∀ (x3 : Int), ∀ (x4 : Int), ∀ (M : gM), k7 x3 x4 M → gW p l e (gRm 7 182) s m args below meth c D cy A H0 Q 7 kd ln rh 0 0 M 7 [(0, .ref (gad a0)), (1, .int (gI a1)), (2, .int (gI a2)), (3, .int (gI x3)), (4, .int (gI x4))] []) → ∀ (n : Nat) (x3 : Int) (x4 : Int) (x5 : Int) (M : gM), wX7_layer_19 kd ln post a0 a1 a2 k7 n x3 x4 x5 M → gW p l e (gRm 7 182) s m args below meth c D cy A H0 Q 7 kd ln rh 0 0 M 19 [(0, .ref (gad a0)), (1, .int (gI a1)), (2, .int (gI a2)), (3, .int (gI x3)), (4, .int (gI x4)), (5, .int (gI x5))] [] := by
    intro k7 hk7_
    intro n
    induction n with
    | zero => intro x3 x4 x5 M h; exact absurd h (by simp [wX7_layer_19])
    | succ n ih =>
      intro x3 x4 x5 M h
      have hk19_ := ih
      rw [wX7_layer_19] at h
      refine q_iload C 5 rfl dX7_layer_19 ?_
      refine q_aload_n C 0 rfl rfl dX7_layer_21 ?_
      refine q_get (v := .int (gI (M a0 2 (-1)))) C fX7_13 hk0 rfl dX7_layer_22 (fun g6 => ?_)
      have h := h g6
      obtain ⟨r7, h⟩ := h
      refine q_icmp_ge (tgt := 109) C r7 g6 (by decide) dX7_layer_25 (fun b8 => ?_) (fun b8 => ?_)
      · have h := h.1 b8
        refine q_iinc (lv' := [(4, .int (gI (x4 + 1))), (0, .ref (gad a0)), (1, .int (gI a1)), (2, .int (gI a2)), (3, .int (gI x3)), (5, .int (gI x5))]) C 4 rfl (by decide) rfl dX7_layer_109 ?_
        refine q_goto (tgt := 7) C (by decide) dX7_layer_112 ?_
        refine q_lv (lv' := [(0, .ref (gad a0)), (1, .int (gI a1)), (2, .int (gI a2)), (3, .int (gI x3)), (4, .int (gI (x4 + 1)))]) [1, 2, 3, 4, 0] rfl ?_
        exact hk7_ x3 (x4 + 1) M h
      · have h := h.2 b8
        refine q_iconst C dX7_layer_28 ?_
        refine q_istore (lv' := [(6, .int (gI 0)), (0, .ref (gad a0)), (1, .int (gI a1)), (2, .int (gI a2)), (3, .int (gI x3)), (4, .int (gI x4)), (5, .int (gI x5))]) C (by decide) rfl dX7_layer_29 ?_
        refine q_lv (lv' := [(0, .ref (gad a0)), (1, .int (gI a1)), (2, .int (gI a2)), (3, .int (gI x3)), (4, .int (gI x4)), (5, .int (gI x5)), (6, .int (gI 0))]) [1, 2, 3, 4, 5, 6, 0] rfl ?_
        obtain ⟨j31, h⟩ := h
        exact t31 k7 hk7_ (wX7_layer_19 kd ln post a0 a1 a2 k7 n) hk19_ j31 x3 x4 x5 0 M h
  have t7 : ∀ (n : Nat) (x3 : Int) (x4 : Int) (M : gM), wX7_layer_7 kd ln post a0 a1 a2 n x3 x4 M → gW p l e (gRm 7 182) s m args below meth c D cy A H0 Q 7 kd ln rh 0 0 M 7 [(0, .ref (gad a0)), (1, .int (gI a1)), (2, .int (gI a2)), (3, .int (gI x3)), (4, .int (gI x4))] [] := by
    intro n
    induction n with
    | zero => intro x3 x4 M h; exact absurd h (by simp [wX7_layer_7])
    | succ n ih =>
      intro x3 x4 M h
      have hk7_ := ih
      rw [wX7_layer_7] at h
      refine q_iload C 4 rfl dX7_layer_7 ?_
      refine q_aload_n C 0 rfl rfl dX7_layer_9 ?_
      refine q_get (v := .int (gI (M a0 2 (-1)))) C fX7_13 hk0 rfl dX7_layer_10 (fun g3 => ?_)
      have h := h g3
      obtain ⟨r4, h⟩ := h
      refine q_icmp_ge (tgt := 115) C r4 g3 (by decide) dX7_layer_13 (fun b5 => ?_) (fun b5 => ?_)
      · have h := h.1 b5
        exact hret M _ _ dX7_layer_115 h
      · have h := h.2 b5
        refine q_iconst C dX7_layer_16 ?_
        refine q_istore (lv' := [(5, .int (gI 0)), (0, .ref (gad a0)), (1, .int (gI a1)), (2, .int (gI a2)), (3, .int (gI x3)), (4, .int (gI x4))]) C (by decide) rfl dX7_layer_17 ?_
        refine q_lv (lv' := [(0, .ref (gad a0)), (1, .int (gI a1)), (2, .int (gI a2)), (3, .int (gI x3)), (4, .int (gI x4)), (5, .int (gI 0))]) [1, 2, 3, 4, 5, 0] rfl ?_
        obtain ⟨j19, h⟩ := h
        exact t19 (wX7_layer_7 kd ln post a0 a1 a2 n) hk7_ j19 x3 x4 0 M h
  unfold wX7_layer at h
  refine q_iload_n C 2 rfl rfl dX7_layer_0 ?_
  refine q_iconst C dX7_layer_1 ?_
  obtain ⟨r1, h⟩ := h
  refine q_irem C ⟨r1.1, r1.2, by decide, by decide⟩ dX7_layer_2 ?_
  refine q_topi (fun v2 ev2 => ?_)
  have h := h v2 ev2
  refine q_istore_n (lv' := [(3, .int (gI v2)), (0, .ref (gad a0)), (1, .int (gI a1)), (2, .int (gI a2))]) C rfl (by decide) rfl dX7_layer_3 ?_
  refine q_iconst C dX7_layer_4 ?_
  refine q_istore (lv' := [(4, .int (gI 0)), (3, .int (gI v2)), (0, .ref (gad a0)), (1, .int (gI a1)), (2, .int (gI a2))]) C (by decide) rfl dX7_layer_5 ?_
  refine q_lv (lv' := [(0, .ref (gad a0)), (1, .int (gI a1)), (2, .int (gI a2)), (3, .int (gI v2)), (4, .int (gI 0))]) [2, 3, 4, 1, 0] rfl ?_
  obtain ⟨j7, h⟩ := h
  exact t7  j7 v2 0 M h
set_option maxHeartbeats 4000000 in
set_option maxRecDepth 100000 in
theorem mX7_promotions (l : Launch) (D : va_G) (cy : Nat → ClassId) (kd : gKd) (ln : gLn) (rh : gRh) (post : gM → Prop) (a0 : Int) (a1 : Int) (M : gM) (hk0 : kd a0 = 7) (h : wX7_promotions kd ln post a0 a1 M) : gMV l D cy yX7_promotions cX7_promotions 6 5 125 [.ref (gad a0), .int (gI a1)] kd ln rh M post := by
  refine gMV_of (own := RX7) (by decide) rfl (Nat.le_of_ble_eq_true rfl) ?_
  intro p e s m args below meth c A H0 Q C hret
  have t127 : ∀ (k2 : Int → gM → Prop), (∀ (x2 : Int), ∀ (M : gM), k2 x2 M → gW p l e (gRm 5 125) s m args below meth c D cy A H0 Q 6 kd ln rh 0 0 M 2 [(0, .ref (gad a0)), (1, .int (gI a1)), (2, .int (gI x2))] []) → ∀ (k12 : Int → Int → gM → Prop), (∀ (x2 : Int), ∀ (x3 : Int), ∀ (M : gM), k12 x2 x3 M → gW p l e (gRm 5 125) s m args below meth c D cy A H0 Q 6 kd ln rh 0 0 M 12 [(0, .ref (gad a0)), (1, .int (gI a1)), (2, .int (gI x2)), (3, .int (gI x3))] []) → ∀ (k33 : Int → Int → Int → gM → Prop), (∀ (x2 : Int), ∀ (x3 : Int), ∀ (x4 : Int), ∀ (M : gM), k33 x2 x3 x4 M → gW p l e (gRm 5 125) s m args below meth c D cy A H0 Q 6 kd ln rh 0 0 M 33 [(0, .ref (gad a0)), (1, .int (gI a1)), (2, .int (gI x2)), (3, .int (gI x3)), (4, .int (gI x4))] []) → ∀ (x2 : Int) (x3 : Int) (x4 : Int) (M : gM), wX7_promotions_127 kd ln post a0 a1 k2 k12 k33 x2 x3 x4 M → gW p l e (gRm 5 125) s m args below meth c D cy A H0 Q 6 kd ln rh 0 0 M 127 [(0, .ref (gad a0)), (1, .int (gI a1)), (2, .int (gI x2)), (3, .int (gI x3)), (4, .int (gI x4))] [] := by
    intro k2 hk2_ k12 hk12_ k33 hk33_ x2 x3 x4 M h
    unfold wX7_promotions_127 at h
    refine q_iinc (lv' := [(4, .int (gI (x4 + 1))), (0, .ref (gad a0)), (1, .int (gI a1)), (2, .int (gI x2)), (3, .int (gI x3))]) C 4 rfl (by decide) rfl dX7_promotions_127 ?_
    refine q_goto (tgt := 33) C (by decide) dX7_promotions_130 ?_
    refine q_lv (lv' := [(0, .ref (gad a0)), (1, .int (gI a1)), (2, .int (gI x2)), (3, .int (gI x3)), (4, .int (gI (x4 + 1)))]) [1, 2, 3, 4, 0] rfl ?_
    exact hk33_ x2 x3 (x4 + 1) M h
  have t116 : ∀ (k2 : Int → gM → Prop), (∀ (x2 : Int), ∀ (M : gM), k2 x2 M → gW p l e (gRm 5 125) s m args below meth c D cy A H0 Q 6 kd ln rh 0 0 M 2 [(0, .ref (gad a0)), (1, .int (gI a1)), (2, .int (gI x2))] []) → ∀ (k12 : Int → Int → gM → Prop), (∀ (x2 : Int), ∀ (x3 : Int), ∀ (M : gM), k12 x2 x3 M → gW p l e (gRm 5 125) s m args below meth c D cy A H0 Q 6 kd ln rh 0 0 M 12 [(0, .ref (gad a0)), (1, .int (gI a1)), (2, .int (gI x2)), (3, .int (gI x3))] []) → ∀ (k33 : Int → Int → Int → gM → Prop), (∀ (x2 : Int), ∀ (x3 : Int), ∀ (x4 : Int), ∀ (M : gM), k33 x2 x3 x4 M → gW p l e (gRm 5 125) s m args below meth c D cy A H0 Q 6 kd ln rh 0 0 M 33 [(0, .ref (gad a0)), (1, .int (gI a1)), (2, .int (gI x2)), (3, .int (gI x3)), (4, .int (gI x4))] []) → ∀ (x2 : Int) (x3 : Int) (x4 : Int) (M : gM), wX7_promotions_116 kd ln post a0 a1 k2 k12 k33 x2 x3 x4 M → gW p l e (gRm 5 125) s m args below meth c D cy A H0 Q 6 kd ln rh 0 0 M 116 [(0, .ref (gad a0)), (1, .int (gI a1)), (2, .int (gI x2)), (3, .int (gI x3)), (4, .int (gI x4))] [] := by
    intro k2 hk2_ k12 hk12_ k33 hk33_ x2 x3 x4 M h
    unfold wX7_promotions_116 at h
    refine q_aload_n C 0 rfl rfl dX7_promotions_116 ?_
    refine q_iconst C dX7_promotions_117 ?_
    refine q_iload_n C 2 rfl rfl dX7_promotions_118 ?_
    refine q_iload_n C 3 rfl rfl dX7_promotions_119 ?_
    refine q_iload C 4 rfl dX7_promotions_120 ?_
    refine q_iconst C dX7_promotions_122 ?_
    refine q_iload_n C 1 rfl rfl dX7_promotions_123 ?_
    refine q_callVV (As := [.int (gI 2), .int (gI x2), .int (gI x3), .int (gI x4), .int (gI 0), .int (gI a1)]) (st := []) C vX7_142 kX7_decide ⟨Nat.le_of_ble_eq_true rfl, Nat.le_of_ble_eq_true rfl⟩ ⟨Nat.le_of_ble_eq_true rfl, Nat.le_of_ble_eq_true rfl⟩ rfl hk0 ⟨_, _, rfl⟩ (by decide) rfl (Nat.le_of_ble_eq_true rfl) (mX7_decide l D cy kd ln rh _ a0 2 x2 x3 x4 0 a1 M hk0 h) dX7_promotions_124 (fun M35 h => ?_)
    exact t127 k2 hk2_ k12 hk12_ k33 hk33_ x2 x3 x4 M35 h
  have t33 : ∀ (k2 : Int → gM → Prop), (∀ (x2 : Int), ∀ (M : gM), k2 x2 M → gW p l e (gRm 5 125) s m args below meth c D cy A H0 Q 6 kd ln rh 0 0 M 2 [(0, .ref (gad a0)), (1, .int (gI a1)), (2, .int (gI x2))] []) → ∀ (k12 : Int → Int → gM → Prop), (∀ (x2 : Int), ∀ (x3 : Int), ∀ (M : gM), k12 x2 x3 M → gW p l e (gRm 5 125) s m args below meth c D cy A H0 Q 6 kd ln rh 0 0 M 12 [(0, .ref (gad a0)), (1, .int (gI a1)), (2, .int (gI x2)), (3, .int (gI x3))] []) → ∀ (n : Nat) (x2 : Int) (x3 : Int) (x4 : Int) (M : gM), wX7_promotions_33 kd ln post a0 a1 k2 k12 n x2 x3 x4 M → gW p l e (gRm 5 125) s m args below meth c D cy A H0 Q 6 kd ln rh 0 0 M 33 [(0, .ref (gad a0)), (1, .int (gI a1)), (2, .int (gI x2)), (3, .int (gI x3)), (4, .int (gI x4))] [] := by
    intro k2 hk2_ k12 hk12_
    intro n
    induction n with
    | zero => intro x2 x3 x4 M h; exact absurd h (by simp [wX7_promotions_33])
    | succ n ih =>
      intro x2 x3 x4 M h
      have hk33_ := ih
      rw [wX7_promotions_33] at h
      refine q_iload C 4 rfl dX7_promotions_33 ?_
      refine q_aload_n C 0 rfl rfl dX7_promotions_35 ?_
      refine q_get (v := .int (gI (M a0 2 (-1)))) C fX7_13 hk0 rfl dX7_promotions_36 (fun g10 => ?_)
      have h := h g10
      refine q_aload_n C 0 rfl rfl dX7_promotions_39 ?_
      refine q_get (v := .int (gI (M a0 1 (-1)))) C fX7_7 hk0 rfl dX7_promotions_40 (fun g11 => ?_)
      have h := h g11
      refine q_isub C dX7_promotions_43 ?_
      obtain ⟨r12, h⟩ := h
      obtain ⟨r13, h⟩ := h
      refine q_icmp_ge (tgt := 133) C r12 r13 (by decide) dX7_promotions_44 (fun b14 => ?_) (fun b14 => ?_)
      · have h := h.1 b14
        refine q_iinc (lv' := [(3, .int (gI (x3 + 1))), (0, .ref (gad a0)), (1, .int (gI a1)), (2, .int (gI x2)), (4, .int (gI x4))]) C 3 rfl (by decide) rfl dX7_promotions_133 ?_
        refine q_goto (tgt := 12) C (by decide) dX7_promotions_136 ?_
        refine q_lv (lv' := [(0, .ref (gad a0)), (1, .int (gI a1)), (2, .int (gI x2)), (3, .int (gI (x3 + 1)))]) [1, 2, 3, 0] rfl ?_
        exact hk12_ x2 (x3 + 1) M h
      · have h := h.2 b14
        refine q_iload C 4 rfl dX7_promotions_47 ?_
        refine q_aload_n C 0 rfl rfl dX7_promotions_49 ?_
        refine q_get (v := .int (gI (M a0 1 (-1)))) C fX7_7 hk0 rfl dX7_promotions_50 (fun g15 => ?_)
        refine q_iadd C dX7_promotions_53 ?_
        refine q_topi (fun v16 ev16 => ?_)
        have h := h v16 ev16
        refine q_istore (lv' := [(5, .int (gI v16)), (0, .ref (gad a0)), (1, .int (gI a1)), (2, .int (gI x2)), (3, .int (gI x3)), (4, .int (gI x4))]) C (by decide) rfl dX7_promotions_54 ?_
        refine q_iload C 0 rfl dX7_promotions_56 ?_
        refine q_iload_n C 3 rfl rfl dX7_promotions_58 ?_
        obtain ⟨r17, h⟩ := h
        obtain ⟨r18, h⟩ := h
        refine q_icmp_eq (tgt := 127) C r17 r18 (by decide) dX7_promotions_59 (fun b19 => ?_) (fun b19 => ?_)
        · have h := h.1 b19
          refine q_lv (lv' := [(0, .ref (gad a0)), (1, .int (gI a1)), (2, .int (gI x2)), (3, .int (gI x3)), (4, .int (gI x4))]) [1, 2, 3, 4, 5] rfl ?_
          exact t127 k2 hk2_ k12 hk12_ (wX7_promotions_33 kd ln post a0 a1 k2 k12 n) hk33_ x2 x3 x4 M h
        · have h := h.2 b19
          refine q_iload C 0 rfl dX7_promotions_62 ?_
          refine q_iload_n C 4 rfl rfl dX7_promotions_64 ?_
          obtain ⟨r20, h⟩ := h
          refine q_icmp_eq (tgt := 127) C r17 r20 (by decide) dX7_promotions_65 (fun b21 => ?_) (fun b21 => ?_)
          · have h := h.1 b21
            refine q_lv (lv' := [(0, .ref (gad a0)), (1, .int (gI a1)), (2, .int (gI x2)), (3, .int (gI x3)), (4, .int (gI x4))]) [1, 2, 3, 4, 5] rfl ?_
            exact t127 k2 hk2_ k12 hk12_ (wX7_promotions_33 kd ln post a0 a1 k2 k12 n) hk33_ x2 x3 x4 M h
          · have h := h.2 b21
            refine q_aload_n C 1 rfl rfl dX7_promotions_68 ?_
            refine q_iconst C dX7_promotions_69 ?_
            refine q_iload_n C 3 rfl rfl dX7_promotions_70 ?_
            refine q_iload_n C 4 rfl rfl dX7_promotions_71 ?_
            refine q_iload C 5 rfl dX7_promotions_72 ?_
            refine q_iconst C dX7_promotions_74 ?_
            refine q_callVI (As := [.int (gI 2), .int (gI x2), .int (gI x3), .int (gI x4), .int (gI 0)]) (st := []) C vX7_159 kX7_isOpen ⟨Nat.le_of_ble_eq_true rfl, Nat.le_of_ble_eq_true rfl⟩ ⟨Nat.le_of_ble_eq_true rfl, Nat.le_of_ble_eq_true rfl⟩ rfl hk0 ⟨_, _, rfl⟩ (by decide) rfl (Nat.le_of_ble_eq_true rfl) (mX7_isOpen l D cy kd ln rh _ a0 2 x2 x3 x4 0 M hk0 h) dX7_promotions_75 (fun c23 M22 g24 h => ?_)
            have h := h g24
            refine q_if_ne (tgt := 84) C g24 (by decide) dX7_promotions_78 (fun b25 => ?_) (fun b25 => ?_)
            · have h := h.1 b25
              refine q_aload_n C 1 rfl rfl dX7_promotions_84 ?_
              refine q_iconst C dX7_promotions_85 ?_
              refine q_iload_n C 3 rfl rfl dX7_promotions_86 ?_
              refine q_iload_n C 4 rfl rfl dX7_promotions_87 ?_
              refine q_iload C 0 rfl dX7_promotions_88 ?_
              refine q_iconst C dX7_promotions_90 ?_
              refine q_callVI (As := [.int (gI 0), .int (gI x2), .int (gI x3), .int (gI v16), .int (gI 1)]) (st := []) C vX7_123 kX7_distanceOf ⟨Nat.le_of_ble_eq_true rfl, Nat.le_of_ble_eq_true rfl⟩ ⟨Nat.le_of_ble_eq_true rfl, Nat.le_of_ble_eq_true rfl⟩ rfl hk0 ⟨_, _, rfl⟩ (by decide) rfl (Nat.le_of_ble_eq_true rfl) (mX7_distanceOf l D cy kd ln rh _ a0 0 x2 x3 v16 1 M22 hk0 h) dX7_promotions_91 (fun c27 M26 g28 h => ?_)
              have h := h g28
              refine q_iload_n C 2 rfl rfl dX7_promotions_94 ?_
              refine q_iconst C dX7_promotions_95 ?_
              refine q_isub C dX7_promotions_96 ?_
              obtain ⟨r29, h⟩ := h
              refine q_icmp_eq (tgt := 116) C g28 r29 (by decide) dX7_promotions_97 (fun b30 => ?_) (fun b30 => ?_)
              · have h := h.1 b30
                refine q_lv (lv' := [(0, .ref (gad a0)), (1, .int (gI a1)), (2, .int (gI x2)), (3, .int (gI x3)), (4, .int (gI x4))]) [1, 2, 3, 4, 5] rfl ?_
                exact t116 k2 hk2_ k12 hk12_ (wX7_promotions_33 kd ln post a0 a1 k2 k12 n) hk33_ x2 x3 x4 M26 h
              · have h := h.2 b30
                refine q_aload_n C 1 rfl rfl dX7_promotions_100 ?_
                refine q_iconst C dX7_promotions_101 ?_
                refine q_iload_n C 3 rfl rfl dX7_promotions_102 ?_
                refine q_iload_n C 4 rfl rfl dX7_promotions_103 ?_
                refine q_iload C 0 rfl dX7_promotions_104 ?_
                refine q_iconst C dX7_promotions_106 ?_
                refine q_callVI (As := [.int (gI 1), .int (gI x2), .int (gI x3), .int (gI v16), .int (gI 1)]) (st := []) C vX7_123 kX7_distanceOf ⟨Nat.le_of_ble_eq_true rfl, Nat.le_of_ble_eq_true rfl⟩ ⟨Nat.le_of_ble_eq_true rfl, Nat.le_of_ble_eq_true rfl⟩ rfl hk0 ⟨_, _, rfl⟩ (by decide) rfl (Nat.le_of_ble_eq_true rfl) (mX7_distanceOf l D cy kd ln rh _ a0 1 x2 x3 v16 1 M26 hk0 h) dX7_promotions_107 (fun c32 M31 g33 h => ?_)
                have h := h g33
                refine q_iload_n C 2 rfl rfl dX7_promotions_110 ?_
                refine q_iconst C dX7_promotions_111 ?_
                refine q_isub C dX7_promotions_112 ?_
                refine q_icmp_ne (tgt := 127) C g33 r29 (by decide) dX7_promotions_113 (fun b34 => ?_) (fun b34 => ?_)
                · have h := h.1 b34
                  refine q_lv (lv' := [(0, .ref (gad a0)), (1, .int (gI a1)), (2, .int (gI x2)), (3, .int (gI x3)), (4, .int (gI x4))]) [1, 2, 3, 4, 5] rfl ?_
                  exact t127 k2 hk2_ k12 hk12_ (wX7_promotions_33 kd ln post a0 a1 k2 k12 n) hk33_ x2 x3 x4 M31 h
                · have h := h.2 b34
                  refine q_lv (lv' := [(0, .ref (gad a0)), (1, .int (gI a1)), (2, .int (gI x2)), (3, .int (gI x3)), (4, .int (gI x4))]) [1, 2, 3, 4, 5] rfl ?_
                  exact t116 k2 hk2_ k12 hk12_ (wX7_promotions_33 kd ln post a0 a1 k2 k12 n) hk33_ x2 x3 x4 M31 h
            · have h := h.2 b25
              refine q_goto (tgt := 127) C (by decide) dX7_promotions_81 ?_
              refine q_lv (lv' := [(0, .ref (gad a0)), (1, .int (gI a1)), (2, .int (gI x2)), (3, .int (gI x3)), (4, .int (gI x4))]) [1, 2, 3, 4, 5] rfl ?_
              exact t127 k2 hk2_ k12 hk12_ (wX7_promotions_33 kd ln post a0 a1 k2 k12 n) hk33_ x2 x3 x4 M22 h
  have t12 : ∀ (k2 : Int → gM → Prop), (∀ (x2 : Int), ∀ (M : gM), k2 x2 M → gW p l e (gRm 5 125) s m args below meth c D cy A H0 Q 6 kd ln rh 0 0 M 2 [(0, .ref (gad a0)), (1, .int (gI a1)), (2, .int (gI x2))] []) → ∀ (n : Nat) (x2 : Int) (x3 : Int) (M : gM), wX7_promotions_12 kd ln post a0 a1 k2 n x2 x3 M → gW p l e (gRm 5 125) s m args below meth c D cy A H0 Q 6 kd ln rh 0 0 M 12 [(0, .ref (gad a0)), (1, .int (gI a1)), (2, .int (gI x2)), (3, .int (gI x3))] [] := by
    intro k2 hk2_
    intro n
    induction n with
    | zero => intro x2 x3 M h; exact absurd h (by simp [wX7_promotions_12])
    | succ n ih =>
      intro x2 x3 M h
      have hk12_ := ih
      rw [wX7_promotions_12] at h
      refine q_iload_n C 3 rfl rfl dX7_promotions_12 ?_
      refine q_aload_n C 0 rfl rfl dX7_promotions_13 ?_
      refine q_get (v := .int (gI (M a0 2 (-1)))) C fX7_13 hk0 rfl dX7_promotions_14 (fun g4 => ?_)
      have h := h g4
      obtain ⟨r5, h⟩ := h
      refine q_icmp_ge (tgt := 139) C r5 g4 (by decide) dX7_promotions_17 (fun b6 => ?_) (fun b6 => ?_)
      · have h := h.1 b6
        refine q_iinc (lv' := [(2, .int (gI (x2 + 1))), (0, .ref (gad a0)), (1, .int (gI a1)), (3, .int (gI x3))]) C 2 rfl (by decide) rfl dX7_promotions_139 ?_
        refine q_goto (tgt := 2) C (by decide) dX7_promotions_142 ?_
        refine q_lv (lv' := [(0, .ref (gad a0)), (1, .int (gI a1)), (2, .int (gI (x2 + 1)))]) [1, 2, 0] rfl ?_
        exact hk2_ (x2 + 1) M h
      · have h := h.2 b6
        refine q_aload_n C 0 rfl rfl dX7_promotions_20 ?_
        refine q_get (v := .int (gI (M a0 2 (-1)))) C fX7_13 hk0 rfl dX7_promotions_21 (fun g7 => ?_)
        refine q_iconst C dX7_promotions_24 ?_
        refine q_aload_n C 0 rfl rfl dX7_promotions_25 ?_
        refine q_get (v := .int (gI (M a0 1 (-1)))) C fX7_7 hk0 rfl dX7_promotions_26 (fun g8 => ?_)
        have h := h g8
        refine q_imul C dX7_promotions_29 ?_
        refine q_isub C dX7_promotions_30 ?_
        refine q_topi (fun v9 ev9 => ?_)
        have h := h v9 ev9
        refine q_istore (lv' := [(4, .int (gI v9)), (0, .ref (gad a0)), (1, .int (gI a1)), (2, .int (gI x2)), (3, .int (gI x3))]) C (by decide) rfl dX7_promotions_31 ?_
        refine q_lv (lv' := [(0, .ref (gad a0)), (1, .int (gI a1)), (2, .int (gI x2)), (3, .int (gI x3)), (4, .int (gI v9))]) [1, 2, 3, 4, 0] rfl ?_
        obtain ⟨j33, h⟩ := h
        exact t33 k2 hk2_ (wX7_promotions_12 kd ln post a0 a1 k2 n) hk12_ j33 x2 x3 v9 M h
  have t2 : ∀ (n : Nat) (x2 : Int) (M : gM), wX7_promotions_2 kd ln post a0 a1 n x2 M → gW p l e (gRm 5 125) s m args below meth c D cy A H0 Q 6 kd ln rh 0 0 M 2 [(0, .ref (gad a0)), (1, .int (gI a1)), (2, .int (gI x2))] [] := by
    intro n
    induction n with
    | zero => intro x2 M h; exact absurd h (by simp [wX7_promotions_2])
    | succ n ih =>
      intro x2 M h
      have hk2_ := ih
      rw [wX7_promotions_2] at h
      refine q_iload_n C 2 rfl rfl dX7_promotions_2 ?_
      refine q_aload_n C 0 rfl rfl dX7_promotions_3 ?_
      refine q_get (v := .int (gI (M a0 2 (-1)))) C fX7_13 hk0 rfl dX7_promotions_4 (fun g1 => ?_)
      have h := h g1
      obtain ⟨r2, h⟩ := h
      refine q_icmp_ge (tgt := 145) C r2 g1 (by decide) dX7_promotions_7 (fun b3 => ?_) (fun b3 => ?_)
      · have h := h.1 b3
        exact hret M _ _ dX7_promotions_145 h
      · have h := h.2 b3
        refine q_iconst C dX7_promotions_10 ?_
        refine q_istore_n (lv' := [(3, .int (gI 0)), (0, .ref (gad a0)), (1, .int (gI a1)), (2, .int (gI x2))]) C rfl (by decide) rfl dX7_promotions_11 ?_
        refine q_lv (lv' := [(0, .ref (gad a0)), (1, .int (gI a1)), (2, .int (gI x2)), (3, .int (gI 0))]) [1, 2, 3, 0] rfl ?_
        obtain ⟨j12, h⟩ := h
        exact t12 (wX7_promotions_2 kd ln post a0 a1 n) hk2_ j12 x2 0 M h
  unfold wX7_promotions at h
  refine q_iconst C dX7_promotions_0 ?_
  refine q_istore_n (lv' := [(2, .int (gI 0)), (0, .ref (gad a0)), (1, .int (gI a1))]) C rfl (by decide) rfl dX7_promotions_1 ?_
  refine q_lv (lv' := [(0, .ref (gad a0)), (1, .int (gI a1)), (2, .int (gI 0))]) [1, 2, 0] rfl ?_
  obtain ⟨j2, h⟩ := h
  exact t2  j2 0 M h
