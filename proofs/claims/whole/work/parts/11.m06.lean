set_option maxHeartbeats 4000000 in
set_option maxRecDepth 100000 in
theorem mX7_pawnMoves (l : Launch) (D : va_G) (cy : Nat → ClassId) (kd : gKd) (ln : gLn) (rh : gRh) (post : gM → Prop) (a0 : Int) (a1 : Int) (a2 : Int) (a3 : Int) (M : gM) (hk0 : kd a0 = 7) (h : wX7_pawnMoves kd ln post a0 a1 a2 a3 M) : gMV l D cy yX7_pawnMoves cX7_pawnMoves 6 1 28 [.ref (gad a0), .int (gI a1), .int (gI a2), .int (gI a3)] kd ln rh M post := by
  refine gMV_of (own := RX7) (by decide) rfl (Nat.le_of_ble_eq_true rfl) ?_
  intro p e s m args below meth c A H0 Q C hret
  have t64 : ∀ (k40 : Int → Int → gM → Prop), (∀ (x4 : Int), ∀ (x5 : Int), ∀ (M : gM), k40 x4 x5 M → gW p l e (gRm 1 28) s m args below meth c D cy A H0 Q 6 kd ln rh 0 0 M 40 [(0, .ref (gad a0)), (1, .int (gI a1)), (2, .int (gI a2)), (3, .int (gI a3)), (4, .int (gI x4)), (5, .int (gI x5))] []) → ∀ (x4 : Int) (x5 : Int) (y0 : Int) (y1 : Int) (y2 : Int) (y3 : Int) (M : gM), wX7_pawnMoves_64 kd ln post a0 a1 a2 a3 k40 x4 x5 y0 y1 y2 y3 M → gW p l e (gRm 1 28) s m args below meth c D cy A H0 Q 6 kd ln rh 0 0 M 64 [(0, .ref (gad a0)), (1, .int (gI a1)), (2, .int (gI a2)), (3, .int (gI a3)), (4, .int (gI x4)), (5, .int (gI x5))] [.int (gI y0), .int (gI y1), .int (gI y2), .int (gI y3), .ref (gad a0)] := by
    intro k40 hk40_ x4 x5 y0 y1 y2 y3 M h
    unfold wX7_pawnMoves_64 at h
    refine q_iload_n C 1 rfl rfl dX7_pawnMoves_64 ?_
    refine q_iload_n C 2 rfl rfl dX7_pawnMoves_65 ?_
    refine q_iload C 4 rfl dX7_pawnMoves_66 ?_
    refine q_callVV (As := [.int (gI y3), .int (gI y2), .int (gI y1), .int (gI y0), .int (gI a1), .int (gI a2), .int (gI x4)]) (st := []) C vX7_110 kX7_add ⟨Nat.le_of_ble_eq_true rfl, Nat.le_of_ble_eq_true rfl⟩ ⟨Nat.le_of_ble_eq_true rfl, Nat.le_of_ble_eq_true rfl⟩ rfl hk0 ⟨_, _, rfl⟩ (by decide) rfl (Nat.le_of_ble_eq_true rfl) (mX7_add l D cy kd ln rh _ a0 y3 y2 y1 y0 a1 a2 x4 M hk0 h) dX7_pawnMoves_68 (fun M38 h => ?_)
    refine q_iinc (lv' := [(5, .int (gI (x5 + 1))), (0, .ref (gad a0)), (1, .int (gI a1)), (2, .int (gI a2)), (3, .int (gI a3)), (4, .int (gI x4))]) C 5 rfl (by decide) rfl dX7_pawnMoves_71 ?_
    refine q_goto (tgt := 40) C (by decide) dX7_pawnMoves_74 ?_
    refine q_lv (lv' := [(0, .ref (gad a0)), (1, .int (gI a1)), (2, .int (gI a2)), (3, .int (gI a3)), (4, .int (gI x4)), (5, .int (gI (x5 + 1)))]) [1, 2, 3, 4, 5, 0] rfl ?_
    exact hk40_ x4 (x5 + 1) M38 h
  have t40 : ∀ (n : Nat) (x4 : Int) (x5 : Int) (M : gM), wX7_pawnMoves_40 kd ln post a0 a1 a2 a3 n x4 x5 M → gW p l e (gRm 1 28) s m args below meth c D cy A H0 Q 6 kd ln rh 0 0 M 40 [(0, .ref (gad a0)), (1, .int (gI a1)), (2, .int (gI a2)), (3, .int (gI a3)), (4, .int (gI x4)), (5, .int (gI x5))] [] := by
    intro n
    induction n with
    | zero => intro x4 x5 M h; exact absurd h (by simp [wX7_pawnMoves_40])
    | succ n ih =>
      intro x4 x5 M h
      have hk40_ := ih
      rw [wX7_pawnMoves_40] at h
      refine q_iload C 5 rfl dX7_pawnMoves_40 ?_
      refine q_iconst C dX7_pawnMoves_42 ?_
      obtain ⟨r35, h⟩ := h
      refine q_icmp_ge (tgt := 77) C r35 (show rng 4 by decide) (by decide) dX7_pawnMoves_43 (fun b36 => ?_) (fun b36 => ?_)
      · have h := h.1 b36
        exact hret M _ _ dX7_pawnMoves_77 h
      · have h := h.2 b36
        refine q_aload_n C 0 rfl rfl dX7_pawnMoves_46 ?_
        refine q_iload_n C 3 rfl rfl dX7_pawnMoves_47 ?_
        refine q_iload C 4 rfl dX7_pawnMoves_48 ?_
        refine q_iload C 5 rfl dX7_pawnMoves_50 ?_
        refine q_iload C 5 rfl dX7_pawnMoves_52 ?_
        refine q_iconst C dX7_pawnMoves_54 ?_
        refine q_icmp_ge (tgt := 63) C r35 (show rng 2 by decide) (by decide) dX7_pawnMoves_55 (fun b37 => ?_) (fun b37 => ?_)
        · have h := h.1 b37
          refine q_iconst C dX7_pawnMoves_63 ?_
          exact t64 (wX7_pawnMoves_40 kd ln post a0 a1 a2 a3 n) hk40_ x4 x5 (-1) x5 x4 a3 M h
        · have h := h.2 b37
          refine q_iload C 5 rfl dX7_pawnMoves_58 ?_
          refine q_goto (tgt := 64) C (by decide) dX7_pawnMoves_60 ?_
          exact t64 (wX7_pawnMoves_40 kd ln post a0 a1 a2 a3 n) hk40_ x4 x5 x5 x5 x4 a3 M h
  unfold wX7_pawnMoves at h
  refine q_iload_n C 3 rfl rfl dX7_pawnMoves_0 ?_
  refine q_aload_n C 0 rfl rfl dX7_pawnMoves_1 ?_
  refine q_get (v := .int (gI (M a0 1 (-1)))) C fX7_7 hk0 rfl dX7_pawnMoves_2 (fun g1 => ?_)
  have h := h g1
  refine q_iadd C dX7_pawnMoves_5 ?_
  refine q_topi (fun v2 ev2 => ?_)
  have h := h v2 ev2
  refine q_istore (lv' := [(4, .int (gI v2)), (0, .ref (gad a0)), (1, .int (gI a1)), (2, .int (gI a2)), (3, .int (gI a3))]) C (by decide) rfl dX7_pawnMoves_6 ?_
  refine q_iload C 0 rfl dX7_pawnMoves_8 ?_
  refine q_iload_n C 2 rfl rfl dX7_pawnMoves_10 ?_
  obtain ⟨r3, h⟩ := h
  obtain ⟨r4, h⟩ := h
  refine q_icmp_eq (tgt := 20) C r3 r4 (by decide) dX7_pawnMoves_11 (fun b5 => ?_) (fun b5 => ?_)
  · have h := h.1 b5
    exact hret M _ _ dX7_pawnMoves_20 h
  · have h := h.2 b5
    refine q_iload C 0 rfl dX7_pawnMoves_14 ?_
    refine q_iload_n C 3 rfl rfl dX7_pawnMoves_16 ?_
    obtain ⟨r6, h⟩ := h
    refine q_icmp_ne (tgt := 21) C r3 r6 (by decide) dX7_pawnMoves_17 (fun b7 => ?_) (fun b7 => ?_)
    · have h := h.1 b7
      refine q_iload C 0 rfl dX7_pawnMoves_21 ?_
      refine q_aload_n C 1 rfl rfl dX7_pawnMoves_23 ?_
      refine q_get (v := .int (gI (M a0 1 (-1)))) C fX7_7 hk0 rfl dX7_pawnMoves_24 (fun g8 => ?_)
      obtain ⟨r9, h⟩ := h
      refine q_idiv C r9 dX7_pawnMoves_27 ?_
      refine q_aload_n C 1 rfl rfl dX7_pawnMoves_28 ?_
      refine q_get (v := .int (gI (M a0 1 (-1)))) C fX7_7 hk0 rfl dX7_pawnMoves_29 (fun g10 => ?_)
      refine q_iconst C dX7_pawnMoves_32 ?_
      refine q_isub C dX7_pawnMoves_33 ?_
      obtain ⟨r11, h⟩ := h
      obtain ⟨r12, h⟩ := h
      refine q_icmp_ne (tgt := 78) C r11 r12 (by decide) dX7_pawnMoves_34 (fun b13 => ?_) (fun b13 => ?_)
      · have h := h.1 b13
        refine q_aload_n C 1 rfl rfl dX7_pawnMoves_78 ?_
        refine q_iload_n C 4 rfl rfl dX7_pawnMoves_79 ?_
        refine q_iload C 0 rfl dX7_pawnMoves_80 ?_
        refine q_iconst C dX7_pawnMoves_82 ?_
        refine q_iconst C dX7_pawnMoves_83 ?_
        refine q_iload_n C 2 rfl rfl dX7_pawnMoves_84 ?_
        refine q_iload_n C 3 rfl rfl dX7_pawnMoves_85 ?_
        refine q_iload C 0 rfl dX7_pawnMoves_86 ?_
        refine q_callVV (As := [.int (gI a3), .int (gI v2), .int (gI (-1)), .int (gI 2), .int (gI a1), .int (gI a2), .int (gI v2)]) (st := []) C vX7_110 kX7_add ⟨Nat.le_of_ble_eq_true rfl, Nat.le_of_ble_eq_true rfl⟩ ⟨Nat.le_of_ble_eq_true rfl, Nat.le_of_ble_eq_true rfl⟩ rfl hk0 ⟨_, _, rfl⟩ (by decide) rfl (Nat.le_of_ble_eq_true rfl) (mX7_add l D cy kd ln rh _ a0 a3 v2 (-1) 2 a1 a2 v2 M hk0 h) dX7_pawnMoves_88 (fun M14 h => ?_)
        refine q_iload C 0 rfl dX7_pawnMoves_91 ?_
        refine q_aload_n C 1 rfl rfl dX7_pawnMoves_93 ?_
        refine q_get (v := .int (gI (M14 a0 1 (-1)))) C fX7_7 hk0 rfl dX7_pawnMoves_94 (fun g17 => ?_)
        have h := h g17
        refine q_iadd C dX7_pawnMoves_97 ?_
        refine q_topi (fun v18 ev18 => ?_)
        have h := h v18 ev18
        refine q_istore (lv' := [(5, .int (gI v18)), (4, .int (gI v2)), (0, .ref (gad a0)), (1, .int (gI a1)), (2, .int (gI a2)), (3, .int (gI a3))]) C (by decide) rfl dX7_pawnMoves_98 ?_
        refine q_iload_n C 5 rfl rfl dX7_pawnMoves_100 ?_
        refine q_aload_n C 2 rfl rfl dX7_pawnMoves_101 ?_
        refine q_get (v := .int (gI (M14 a0 1 (-1)))) C fX7_7 hk0 rfl dX7_pawnMoves_102 (fun g19 => ?_)
        obtain ⟨r20, h⟩ := h
        refine q_idiv C r20 dX7_pawnMoves_105 ?_
        refine q_iconst C dX7_pawnMoves_106 ?_
        obtain ⟨r21, h⟩ := h
        refine q_icmp_ne (tgt := 151) C r21 (show rng 1 by decide) (by decide) dX7_pawnMoves_107 (fun b22 => ?_) (fun b22 => ?_)
        · have h := h.1 b22
          exact hret M14 _ _ dX7_pawnMoves_151 h
        · have h := h.2 b22
          refine q_iload C 0 rfl dX7_pawnMoves_110 ?_
          refine q_aload_n C 2 rfl rfl dX7_pawnMoves_112 ?_
          refine q_get (v := .int (gI (M14 a0 1 (-1)))) C fX7_7 hk0 rfl dX7_pawnMoves_113 (fun g23 => ?_)
          obtain ⟨r24, h⟩ := h
          refine q_idiv C r24 dX7_pawnMoves_116 ?_
          refine q_aload_n C 2 rfl rfl dX7_pawnMoves_117 ?_
          refine q_get (v := .int (gI (M14 a0 1 (-1)))) C fX7_7 hk0 rfl dX7_pawnMoves_118 (fun g25 => ?_)
          refine q_iconst C dX7_pawnMoves_121 ?_
          refine q_isub C dX7_pawnMoves_122 ?_
          obtain ⟨r26, h⟩ := h
          obtain ⟨r27, h⟩ := h
          refine q_icmp_ge (tgt := 151) C r26 r27 (by decide) dX7_pawnMoves_123 (fun b28 => ?_) (fun b28 => ?_)
          · have h := h.1 b28
            exact hret M14 _ _ dX7_pawnMoves_151 h
          · have h := h.2 b28
            refine q_iload C 0 rfl dX7_pawnMoves_126 ?_
            refine q_iload_n C 3 rfl rfl dX7_pawnMoves_128 ?_
            obtain ⟨r29, h⟩ := h
            refine q_icmp_eq (tgt := 151) C r29 r4 (by decide) dX7_pawnMoves_129 (fun b30 => ?_) (fun b30 => ?_)
            · have h := h.1 b30
              exact hret M14 _ _ dX7_pawnMoves_151 h
            · have h := h.2 b30
              refine q_iload C 0 rfl dX7_pawnMoves_132 ?_
              refine q_iload_n C 4 rfl rfl dX7_pawnMoves_134 ?_
              refine q_icmp_eq (tgt := 151) C r29 r6 (by decide) dX7_pawnMoves_135 (fun b31 => ?_) (fun b31 => ?_)
              · have h := h.1 b31
                exact hret M14 _ _ dX7_pawnMoves_151 h
              · have h := h.2 b31
                refine q_aload_n C 2 rfl rfl dX7_pawnMoves_138 ?_
                refine q_iload_n C 5 rfl rfl dX7_pawnMoves_139 ?_
                refine q_iload C 0 rfl dX7_pawnMoves_140 ?_
                refine q_iconst C dX7_pawnMoves_142 ?_
                refine q_iconst C dX7_pawnMoves_143 ?_
                refine q_iload_n C 3 rfl rfl dX7_pawnMoves_144 ?_
                refine q_iload_n C 4 rfl rfl dX7_pawnMoves_145 ?_
                refine q_iload C 0 rfl dX7_pawnMoves_146 ?_
                refine q_callVV (As := [.int (gI a3), .int (gI v18), .int (gI (-1)), .int (gI 2), .int (gI a1), .int (gI a2), .int (gI v18)]) (st := []) C vX7_110 kX7_add ⟨Nat.le_of_ble_eq_true rfl, Nat.le_of_ble_eq_true rfl⟩ ⟨Nat.le_of_ble_eq_true rfl, Nat.le_of_ble_eq_true rfl⟩ rfl hk0 ⟨_, _, rfl⟩ (by decide) rfl (Nat.le_of_ble_eq_true rfl) (mX7_add l D cy kd ln rh _ a0 a3 v18 (-1) 2 a1 a2 v18 M14 hk0 h) dX7_pawnMoves_148 (fun M32 h => ?_)
                exact hret M32 _ _ dX7_pawnMoves_151 h
      · have h := h.2 b13
        refine q_iconst C dX7_pawnMoves_37 ?_
        refine q_istore (lv' := [(5, .int (gI 0)), (4, .int (gI v2)), (0, .ref (gad a0)), (1, .int (gI a1)), (2, .int (gI a2)), (3, .int (gI a3))]) C (by decide) rfl dX7_pawnMoves_38 ?_
        refine q_lv (lv' := [(0, .ref (gad a0)), (1, .int (gI a1)), (2, .int (gI a2)), (3, .int (gI a3)), (4, .int (gI v2)), (5, .int (gI 0))]) [2, 3, 4, 5, 1, 0] rfl ?_
        obtain ⟨j40, h⟩ := h
        exact t40  j40 v2 0 M h
    · have h := h.2 b7
      exact hret M _ _ dX7_pawnMoves_20 h
set_option maxHeartbeats 4000000 in
set_option maxRecDepth 100000 in
theorem mX7_find (l : Launch) (D : va_G) (cy : Nat → ClassId) (kd : gKd) (ln : gLn) (rh : gRh) (post : gM → Prop) (a0 : Int) (a1 : Int) (a2 : Int) (a3 : Int) (a4 : Int) (a5 : Int) (M : gM) (hk0 : kd a0 = 7) (h : wX7_find kd ln post a0 a1 a2 a3 a4 a5 M) : gMV l D cy yX7_find cX7_find 10 4 100 [.ref (gad a0), .int (gI a1), .int (gI a2), .int (gI a3), .int (gI a4), .int (gI a5)] kd ln rh M post := by
  refine gMV_of (own := RX7) (by decide) rfl (Nat.le_of_ble_eq_true rfl) ?_
  intro p e s m args below meth c A H0 Q C hret
  have t199 : ∀ (k20 : Int → Int → gM → Prop), (∀ (x6 : Int), ∀ (x7 : Int), ∀ (M : gM), k20 x6 x7 M → gW p l e (gRm 4 100) s m args below meth c D cy A H0 Q 10 kd ln rh 0 0 M 20 [(0, .ref (gad a0)), (1, .int (gI a1)), (2, .int (gI a2)), (3, .int (gI a3)), (4, .int (gI a4)), (5, .int (gI a5)), (6, .int (gI x6)), (7, .int (gI x7))] []) → ∀ (k29 : Int → Int → Int → gM → Prop), (∀ (x6 : Int), ∀ (x7 : Int), ∀ (x8 : Int), ∀ (M : gM), k29 x6 x7 x8 M → gW p l e (gRm 4 100) s m args below meth c D cy A H0 Q 10 kd ln rh 0 0 M 29 [(0, .ref (gad a0)), (1, .int (gI a1)), (2, .int (gI a2)), (3, .int (gI a3)), (4, .int (gI a4)), (5, .int (gI a5)), (6, .int (gI x6)), (7, .int (gI x7)), (8, .int (gI x8))] []) → ∀ (x6 : Int) (x7 : Int) (x8 : Int) (M : gM), wX7_find_199 kd ln post a0 a1 a2 a3 a4 a5 k20 k29 x6 x7 x8 M → gW p l e (gRm 4 100) s m args below meth c D cy A H0 Q 10 kd ln rh 0 0 M 199 [(0, .ref (gad a0)), (1, .int (gI a1)), (2, .int (gI a2)), (3, .int (gI a3)), (4, .int (gI a4)), (5, .int (gI a5)), (6, .int (gI x6)), (7, .int (gI x7)), (8, .int (gI x8))] [] := by
    intro k20 hk20_ k29 hk29_ x6 x7 x8 M h
    unfold wX7_find_199 at h
    refine q_iinc (lv' := [(8, .int (gI (x8 + 1))), (0, .ref (gad a0)), (1, .int (gI a1)), (2, .int (gI a2)), (3, .int (gI a3)), (4, .int (gI a4)), (5, .int (gI a5)), (6, .int (gI x6)), (7, .int (gI x7))]) C 8 rfl (by decide) rfl dX7_find_199 ?_
    refine q_goto (tgt := 29) C (by decide) dX7_find_202 ?_
    refine q_lv (lv' := [(0, .ref (gad a0)), (1, .int (gI a1)), (2, .int (gI a2)), (3, .int (gI a3)), (4, .int (gI a4)), (5, .int (gI a5)), (6, .int (gI x6)), (7, .int (gI x7)), (8, .int (gI (x8 + 1)))]) [1, 2, 3, 4, 5, 6, 7, 8, 0] rfl ?_
    exact hk29_ x6 x7 (x8 + 1) M h
  have t158 : ∀ (k20 : Int → Int → gM → Prop), (∀ (x6 : Int), ∀ (x7 : Int), ∀ (M : gM), k20 x6 x7 M → gW p l e (gRm 4 100) s m args below meth c D cy A H0 Q 10 kd ln rh 0 0 M 20 [(0, .ref (gad a0)), (1, .int (gI a1)), (2, .int (gI a2)), (3, .int (gI a3)), (4, .int (gI a4)), (5, .int (gI a5)), (6, .int (gI x6)), (7, .int (gI x7))] []) → ∀ (k29 : Int → Int → Int → gM → Prop), (∀ (x6 : Int), ∀ (x7 : Int), ∀ (x8 : Int), ∀ (M : gM), k29 x6 x7 x8 M → gW p l e (gRm 4 100) s m args below meth c D cy A H0 Q 10 kd ln rh 0 0 M 29 [(0, .ref (gad a0)), (1, .int (gI a1)), (2, .int (gI a2)), (3, .int (gI a3)), (4, .int (gI a4)), (5, .int (gI a5)), (6, .int (gI x6)), (7, .int (gI x7)), (8, .int (gI x8))] []) → ∀ (x6 : Int) (x7 : Int) (x8 : Int) (x9 : Int) (M : gM), wX7_find_158 kd ln post a0 a1 a2 a3 a4 a5 k20 k29 x6 x7 x8 x9 M → gW p l e (gRm 4 100) s m args below meth c D cy A H0 Q 10 kd ln rh 0 0 M 158 [(0, .ref (gad a0)), (1, .int (gI a1)), (2, .int (gI a2)), (3, .int (gI a3)), (4, .int (gI a4)), (5, .int (gI a5)), (6, .int (gI x6)), (7, .int (gI x7)), (8, .int (gI x8)), (9, .int (gI x9))] [] := by
    intro k20 hk20_ k29 hk29_ x6 x7 x8 x9 M h
    unfold wX7_find_158 at h
    refine q_iload C 5 rfl dX7_find_158 ?_
    refine q_iconst C dX7_find_160 ?_
    obtain ⟨r43, h⟩ := h
    refine q_icmp_ne (tgt := 199) C r43 (show rng 1 by decide) (by decide) dX7_find_161 (fun b44 => ?_) (fun b44 => ?_)
    · have h := h.1 b44
      refine q_lv (lv' := [(0, .ref (gad a0)), (1, .int (gI a1)), (2, .int (gI a2)), (3, .int (gI a3)), (4, .int (gI a4)), (5, .int (gI a5)), (6, .int (gI x6)), (7, .int (gI x7)), (8, .int (gI x8))]) [0, 1, 2, 3, 4, 5, 6, 7, 8] rfl ?_
      exact t199 k20 hk20_ k29 hk29_ x6 x7 x8 M h
    · have h := h.2 b44
      refine q_iload C 9 rfl dX7_find_164 ?_
      refine q_iload C 4 rfl dX7_find_166 ?_
      obtain ⟨r45, h⟩ := h
      obtain ⟨r46, h⟩ := h
      refine q_icmp_eq (tgt := 199) C r45 r46 (by decide) dX7_find_168 (fun b47 => ?_) (fun b47 => ?_)
      · have h := h.1 b47
        refine q_lv (lv' := [(0, .ref (gad a0)), (1, .int (gI a1)), (2, .int (gI a2)), (3, .int (gI a3)), (4, .int (gI a4)), (5, .int (gI a5)), (6, .int (gI x6)), (7, .int (gI x7)), (8, .int (gI x8))]) [0, 1, 2, 3, 4, 5, 6, 7, 8] rfl ?_
        exact t199 k20 hk20_ k29 hk29_ x6 x7 x8 M h
      · have h := h.2 b47
        refine q_aload_n C 0 rfl rfl dX7_find_171 ?_
        refine q_iload_n C 1 rfl rfl dX7_find_172 ?_
        refine q_iload_n C 2 rfl rfl dX7_find_173 ?_
        refine q_iload C 9 rfl dX7_find_174 ?_
        refine q_iload C 4 rfl dX7_find_176 ?_
        refine q_iconst C dX7_find_178 ?_
        refine q_callVI (As := [.int (gI a1), .int (gI a2), .int (gI x9), .int (gI a4), .int (gI 0)]) (st := []) C vX7_107 kX7_legal ⟨Nat.le_of_ble_eq_true rfl, Nat.le_of_ble_eq_true rfl⟩ ⟨Nat.le_of_ble_eq_true rfl, Nat.le_of_ble_eq_true rfl⟩ rfl hk0 ⟨_, _, rfl⟩ (by decide) rfl (Nat.le_of_ble_eq_true rfl) (mX7_legal l D cy kd ln rh _ a0 a1 a2 x9 a4 0 M hk0 h) dX7_find_179 (fun c49 M48 g50 h => ?_)
        have h := h g50
        refine q_if_eq (tgt := 199) C g50 (by decide) dX7_find_182 (fun b51 => ?_) (fun b51 => ?_)
        · have h := h.1 b51
          refine q_lv (lv' := [(0, .ref (gad a0)), (1, .int (gI a1)), (2, .int (gI a2)), (3, .int (gI a3)), (4, .int (gI a4)), (5, .int (gI a5)), (6, .int (gI x6)), (7, .int (gI x7)), (8, .int (gI x8))]) [0, 1, 2, 3, 4, 5, 6, 7, 8] rfl ?_
          exact t199 k20 hk20_ k29 hk29_ x6 x7 x8 M48 h
        · have h := h.2 b51
          refine q_aload_n C 0 rfl rfl dX7_find_185 ?_
          refine q_iload_n C 3 rfl rfl dX7_find_186 ?_
          refine q_iload C 9 rfl dX7_find_187 ?_
          refine q_iconst C dX7_find_189 ?_
          refine q_iload_n C 1 rfl rfl dX7_find_190 ?_
          refine q_iload_n C 2 rfl rfl dX7_find_191 ?_
          refine q_iload C 9 rfl dX7_find_192 ?_
          refine q_iload C 4 rfl dX7_find_194 ?_
          refine q_callVV (As := [.int (gI a3), .int (gI x9), .int (gI (-1)), .int (gI a1), .int (gI a2), .int (gI x9), .int (gI a4)]) (st := []) C vX7_110 kX7_add ⟨Nat.le_of_ble_eq_true rfl, Nat.le_of_ble_eq_true rfl⟩ ⟨Nat.le_of_ble_eq_true rfl, Nat.le_of_ble_eq_true rfl⟩ rfl hk0 ⟨_, _, rfl⟩ (by decide) rfl (Nat.le_of_ble_eq_true rfl) (mX7_add l D cy kd ln rh _ a0 a3 x9 (-1) a1 a2 x9 a4 M48 hk0 h) dX7_find_196 (fun M52 h => ?_)
          refine q_lv (lv' := [(0, .ref (gad a0)), (1, .int (gI a1)), (2, .int (gI a2)), (3, .int (gI a3)), (4, .int (gI a4)), (5, .int (gI a5)), (6, .int (gI x6)), (7, .int (gI x7)), (8, .int (gI x8))]) [0, 1, 2, 3, 4, 5, 6, 7, 8] rfl ?_
          exact t199 k20 hk20_ k29 hk29_ x6 x7 x8 M52 h
  have t122 : ∀ (k20 : Int → Int → gM → Prop), (∀ (x6 : Int), ∀ (x7 : Int), ∀ (M : gM), k20 x6 x7 M → gW p l e (gRm 4 100) s m args below meth c D cy A H0 Q 10 kd ln rh 0 0 M 20 [(0, .ref (gad a0)), (1, .int (gI a1)), (2, .int (gI a2)), (3, .int (gI a3)), (4, .int (gI a4)), (5, .int (gI a5)), (6, .int (gI x6)), (7, .int (gI x7))] []) → ∀ (k29 : Int → Int → Int → gM → Prop), (∀ (x6 : Int), ∀ (x7 : Int), ∀ (x8 : Int), ∀ (M : gM), k29 x6 x7 x8 M → gW p l e (gRm 4 100) s m args below meth c D cy A H0 Q 10 kd ln rh 0 0 M 29 [(0, .ref (gad a0)), (1, .int (gI a1)), (2, .int (gI a2)), (3, .int (gI a3)), (4, .int (gI a4)), (5, .int (gI a5)), (6, .int (gI x6)), (7, .int (gI x7)), (8, .int (gI x8))] []) → ∀ (x6 : Int) (x7 : Int) (x8 : Int) (x9 : Int) (M : gM), wX7_find_122 kd ln post a0 a1 a2 a3 a4 a5 k20 k29 x6 x7 x8 x9 M → gW p l e (gRm 4 100) s m args below meth c D cy A H0 Q 10 kd ln rh 0 0 M 122 [(0, .ref (gad a0)), (1, .int (gI a1)), (2, .int (gI a2)), (3, .int (gI a3)), (4, .int (gI a4)), (5, .int (gI a5)), (6, .int (gI x6)), (7, .int (gI x7)), (8, .int (gI x8)), (9, .int (gI x9))] [] := by
    intro k20 hk20_ k29 hk29_ x6 x7 x8 x9 M h
    unfold wX7_find_122 at h
    refine q_iload C 5 rfl dX7_find_122 ?_
    refine q_iconst C dX7_find_124 ?_
    obtain ⟨r31, h⟩ := h
    refine q_icmp_ne (tgt := 158) C r31 (show rng 1 by decide) (by decide) dX7_find_125 (fun b32 => ?_) (fun b32 => ?_)
    · have h := h.1 b32
      exact t158 k20 hk20_ k29 hk29_ x6 x7 x8 x9 M h
    · have h := h.2 b32
      refine q_iload C 9 rfl dX7_find_128 ?_
      refine q_iload C 4 rfl dX7_find_130 ?_
      obtain ⟨r33, h⟩ := h
      obtain ⟨r34, h⟩ := h
      refine q_icmp_ne (tgt := 158) C r33 r34 (by decide) dX7_find_132 (fun b35 => ?_) (fun b35 => ?_)
      · have h := h.1 b35
        exact t158 k20 hk20_ k29 hk29_ x6 x7 x8 x9 M h
      · have h := h.2 b35
        refine q_aload_n C 0 rfl rfl dX7_find_135 ?_
        refine q_iload C 9 rfl dX7_find_136 ?_
        refine q_iload_n C 2 rfl rfl dX7_find_138 ?_
        refine q_callVI (As := [.int (gI x9), .int (gI a2)]) (st := []) C vX7_96 kX7_isNext ⟨Nat.le_of_ble_eq_true rfl, Nat.le_of_ble_eq_true rfl⟩ ⟨Nat.le_of_ble_eq_true rfl, Nat.le_of_ble_eq_true rfl⟩ rfl hk0 ⟨_, _, rfl⟩ (by decide) rfl (Nat.le_of_ble_eq_true rfl) (mX7_isNext l D cy kd ln rh _ a0 x9 a2 M hk0 h) dX7_find_139 (fun c37 M36 g38 h => ?_)
        have h := h g38
        refine q_if_ne (tgt := 158) C g38 (by decide) dX7_find_142 (fun b39 => ?_) (fun b39 => ?_)
        · have h := h.1 b39
          exact t158 k20 hk20_ k29 hk29_ x6 x7 x8 x9 M36 h
        · have h := h.2 b39
          refine q_aload_n C 0 rfl rfl dX7_find_145 ?_
          refine q_iload_n C 3 rfl rfl dX7_find_146 ?_
          refine q_iload C 9 rfl dX7_find_147 ?_
          refine q_iconst C dX7_find_149 ?_
          refine q_iconst C dX7_find_150 ?_
          refine q_iload_n C 2 rfl rfl dX7_find_151 ?_
          refine q_iload C 9 rfl dX7_find_152 ?_
          refine q_iconst C dX7_find_154 ?_
          refine q_callVV (As := [.int (gI a3), .int (gI x9), .int (gI (-1)), .int (gI (-1)), .int (gI a2), .int (gI x9), .int (gI (-1))]) (st := []) C vX7_110 kX7_add ⟨Nat.le_of_ble_eq_true rfl, Nat.le_of_ble_eq_true rfl⟩ ⟨Nat.le_of_ble_eq_true rfl, Nat.le_of_ble_eq_true rfl⟩ rfl hk0 ⟨_, _, rfl⟩ (by decide) rfl (Nat.le_of_ble_eq_true rfl) (mX7_add l D cy kd ln rh _ a0 a3 x9 (-1) (-1) a2 x9 (-1) M36 hk0 h) dX7_find_155 (fun M40 h => ?_)
          exact t158 k20 hk20_ k29 hk29_ x6 x7 x8 x9 M40 h
  have t59 : ∀ (k20 : Int → Int → gM → Prop), (∀ (x6 : Int), ∀ (x7 : Int), ∀ (M : gM), k20 x6 x7 M → gW p l e (gRm 4 100) s m args below meth c D cy A H0 Q 10 kd ln rh 0 0 M 20 [(0, .ref (gad a0)), (1, .int (gI a1)), (2, .int (gI a2)), (3, .int (gI a3)), (4, .int (gI a4)), (5, .int (gI a5)), (6, .int (gI x6)), (7, .int (gI x7))] []) → ∀ (k29 : Int → Int → Int → gM → Prop), (∀ (x6 : Int), ∀ (x7 : Int), ∀ (x8 : Int), ∀ (M : gM), k29 x6 x7 x8 M → gW p l e (gRm 4 100) s m args below meth c D cy A H0 Q 10 kd ln rh 0 0 M 29 [(0, .ref (gad a0)), (1, .int (gI a1)), (2, .int (gI a2)), (3, .int (gI a3)), (4, .int (gI a4)), (5, .int (gI a5)), (6, .int (gI x6)), (7, .int (gI x7)), (8, .int (gI x8))] []) → ∀ (x6 : Int) (x7 : Int) (x8 : Int) (y0 : Int) (M : gM), wX7_find_59 kd ln post a0 a1 a2 a3 a4 a5 k20 k29 x6 x7 x8 y0 M → gW p l e (gRm 4 100) s m args below meth c D cy A H0 Q 10 kd ln rh 0 0 M 59 [(0, .ref (gad a0)), (1, .int (gI a1)), (2, .int (gI a2)), (3, .int (gI a3)), (4, .int (gI a4)), (5, .int (gI a5)), (6, .int (gI x6)), (7, .int (gI x7)), (8, .int (gI x8))] [.int (gI y0)] := by
    intro k20 hk20_ k29 hk29_ x6 x7 x8 y0 M h
    unfold wX7_find_59 at h
    refine q_istore (lv' := [(9, .int (gI y0)), (0, .ref (gad a0)), (1, .int (gI a1)), (2, .int (gI a2)), (3, .int (gI a3)), (4, .int (gI a4)), (5, .int (gI a5)), (6, .int (gI x6)), (7, .int (gI x7)), (8, .int (gI x8))]) C (by decide) rfl dX7_find_59 ?_
    refine q_iload C 0 rfl dX7_find_61 ?_
    refine q_iconst C dX7_find_63 ?_
    obtain ⟨r14, h⟩ := h
    refine q_icmp_eq (tgt := 199) C r14 (show rng (-1) by decide) (by decide) dX7_find_64 (fun b15 => ?_) (fun b15 => ?_)
    · have h := h.1 b15
      refine q_lv (lv' := [(0, .ref (gad a0)), (1, .int (gI a1)), (2, .int (gI a2)), (3, .int (gI a3)), (4, .int (gI a4)), (5, .int (gI a5)), (6, .int (gI x6)), (7, .int (gI x7)), (8, .int (gI x8))]) [1, 2, 3, 4, 5, 6, 7, 8, 9] rfl ?_
      exact t199 k20 hk20_ k29 hk29_ x6 x7 x8 M h
    · have h := h.2 b15
      refine q_iload C 0 rfl dX7_find_67 ?_
      refine q_iload_n C 3 rfl rfl dX7_find_69 ?_
      obtain ⟨r16, h⟩ := h
      refine q_icmp_eq (tgt := 199) C r14 r16 (by decide) dX7_find_70 (fun b17 => ?_) (fun b17 => ?_)
      · have h := h.1 b17
        refine q_lv (lv' := [(0, .ref (gad a0)), (1, .int (gI a1)), (2, .int (gI a2)), (3, .int (gI a3)), (4, .int (gI a4)), (5, .int (gI a5)), (6, .int (gI x6)), (7, .int (gI x7)), (8, .int (gI x8))]) [1, 2, 3, 4, 5, 6, 7, 8, 9] rfl ?_
        exact t199 k20 hk20_ k29 hk29_ x6 x7 x8 M h
      · have h := h.2 b17
        refine q_iload C 0 rfl dX7_find_73 ?_
        refine q_iload_n C 4 rfl rfl dX7_find_75 ?_
        obtain ⟨r18, h⟩ := h
        refine q_icmp_ne (tgt := 82) C r14 r18 (by decide) dX7_find_76 (fun b19 => ?_) (fun b19 => ?_)
        · have h := h.1 b19
          refine q_iload C 6 rfl dX7_find_82 ?_
          obtain ⟨r20, h⟩ := h
          refine q_if_ne (tgt := 122) C r20 (by decide) dX7_find_84 (fun b21 => ?_) (fun b21 => ?_)
          · have h := h.1 b21
            refine q_lv (lv' := [(0, .ref (gad a0)), (1, .int (gI a1)), (2, .int (gI a2)), (3, .int (gI a3)), (4, .int (gI a4)), (5, .int (gI a5)), (6, .int (gI x6)), (7, .int (gI x7)), (8, .int (gI x8)), (9, .int (gI y0))]) [1, 2, 3, 4, 5, 6, 7, 8, 9, 0] rfl ?_
            exact t122 k20 hk20_ k29 hk29_ x6 x7 x8 y0 M h
          · have h := h.2 b21
            refine q_iload C 0 rfl dX7_find_87 ?_
            refine q_iload C 5 rfl dX7_find_89 ?_
            obtain ⟨r22, h⟩ := h
            refine q_icmp_eq (tgt := 122) C r14 r22 (by decide) dX7_find_91 (fun b23 => ?_) (fun b23 => ?_)
            · have h := h.1 b23
              refine q_lv (lv' := [(0, .ref (gad a0)), (1, .int (gI a1)), (2, .int (gI a2)), (3, .int (gI a3)), (4, .int (gI a4)), (5, .int (gI a5)), (6, .int (gI x6)), (7, .int (gI x7)), (8, .int (gI x8)), (9, .int (gI y0))]) [1, 2, 3, 4, 5, 6, 7, 8, 9, 0] rfl ?_
              exact t122 k20 hk20_ k29 hk29_ x6 x7 x8 y0 M h
            · have h := h.2 b23
              refine q_aload_n C 1 rfl rfl dX7_find_94 ?_
              refine q_iload_n C 2 rfl rfl dX7_find_95 ?_
              refine q_iload C 0 rfl dX7_find_96 ?_
              refine q_iload_n C 4 rfl rfl dX7_find_98 ?_
              refine q_iload C 5 rfl dX7_find_99 ?_
              refine q_iconst C dX7_find_101 ?_
              refine q_callVI (As := [.int (gI a1), .int (gI y0), .int (gI a3), .int (gI a4), .int (gI 1)]) (st := []) C vX7_107 kX7_legal ⟨Nat.le_of_ble_eq_true rfl, Nat.le_of_ble_eq_true rfl⟩ ⟨Nat.le_of_ble_eq_true rfl, Nat.le_of_ble_eq_true rfl⟩ rfl hk0 ⟨_, _, rfl⟩ (by decide) rfl (Nat.le_of_ble_eq_true rfl) (mX7_legal l D cy kd ln rh _ a0 a1 y0 a3 a4 1 M hk0 h) dX7_find_102 (fun c25 M24 g26 h => ?_)
              have h := h g26
              refine q_if_eq (tgt := 122) C g26 (by decide) dX7_find_105 (fun b27 => ?_) (fun b27 => ?_)
              · have h := h.1 b27
                refine q_lv (lv' := [(0, .ref (gad a0)), (1, .int (gI a1)), (2, .int (gI a2)), (3, .int (gI a3)), (4, .int (gI a4)), (5, .int (gI a5)), (6, .int (gI x6)), (7, .int (gI x7)), (8, .int (gI x8)), (9, .int (gI y0))]) [1, 2, 3, 4, 5, 6, 7, 8, 9, 0] rfl ?_
                exact t122 k20 hk20_ k29 hk29_ x6 x7 x8 y0 M24 h
              · have h := h.2 b27
                refine q_aload_n C 1 rfl rfl dX7_find_108 ?_
                refine q_iload_n C 3 rfl rfl dX7_find_109 ?_
                refine q_iload C 0 rfl dX7_find_110 ?_
                refine q_iconst C dX7_find_112 ?_
                refine q_iload_n C 2 rfl rfl dX7_find_113 ?_
                refine q_iload C 0 rfl dX7_find_114 ?_
                refine q_iload_n C 4 rfl rfl dX7_find_116 ?_
                refine q_iload C 5 rfl dX7_find_117 ?_
                refine q_callVV (As := [.int (gI a2), .int (gI y0), .int (gI (-1)), .int (gI a1), .int (gI y0), .int (gI a3), .int (gI a4)]) (st := []) C vX7_110 kX7_add ⟨Nat.le_of_ble_eq_true rfl, Nat.le_of_ble_eq_true rfl⟩ ⟨Nat.le_of_ble_eq_true rfl, Nat.le_of_ble_eq_true rfl⟩ rfl hk0 ⟨_, _, rfl⟩ (by decide) rfl (Nat.le_of_ble_eq_true rfl) (mX7_add l D cy kd ln rh _ a0 a2 y0 (-1) a1 y0 a3 a4 M24 hk0 h) dX7_find_119 (fun M28 h => ?_)
                refine q_lv (lv' := [(0, .ref (gad a0)), (1, .int (gI a1)), (2, .int (gI a2)), (3, .int (gI a3)), (4, .int (gI a4)), (5, .int (gI a5)), (6, .int (gI x6)), (7, .int (gI x7)), (8, .int (gI x8)), (9, .int (gI y0))]) [1, 2, 3, 4, 5, 6, 7, 8, 9, 0] rfl ?_
                exact t122 k20 hk20_ k29 hk29_ x6 x7 x8 y0 M28 h
        · have h := h.2 b19
          refine q_goto (tgt := 199) C (by decide) dX7_find_79 ?_
          refine q_lv (lv' := [(0, .ref (gad a0)), (1, .int (gI a1)), (2, .int (gI a2)), (3, .int (gI a3)), (4, .int (gI a4)), (5, .int (gI a5)), (6, .int (gI x6)), (7, .int (gI x7)), (8, .int (gI x8))]) [1, 2, 3, 4, 5, 6, 7, 8, 9] rfl ?_
          exact t199 k20 hk20_ k29 hk29_ x6 x7 x8 M h
  have t49 : ∀ (k20 : Int → Int → gM → Prop), (∀ (x6 : Int), ∀ (x7 : Int), ∀ (M : gM), k20 x6 x7 M → gW p l e (gRm 4 100) s m args below meth c D cy A H0 Q 10 kd ln rh 0 0 M 20 [(0, .ref (gad a0)), (1, .int (gI a1)), (2, .int (gI a2)), (3, .int (gI a3)), (4, .int (gI a4)), (5, .int (gI a5)), (6, .int (gI x6)), (7, .int (gI x7))] []) → ∀ (k29 : Int → Int → Int → gM → Prop), (∀ (x6 : Int), ∀ (x7 : Int), ∀ (x8 : Int), ∀ (M : gM), k29 x6 x7 x8 M → gW p l e (gRm 4 100) s m args below meth c D cy A H0 Q 10 kd ln rh 0 0 M 29 [(0, .ref (gad a0)), (1, .int (gI a1)), (2, .int (gI a2)), (3, .int (gI a3)), (4, .int (gI a4)), (5, .int (gI a5)), (6, .int (gI x6)), (7, .int (gI x7)), (8, .int (gI x8))] []) → ∀ (x6 : Int) (x7 : Int) (x8 : Int) (M : gM), wX7_find_49 kd ln post a0 a1 a2 a3 a4 a5 k20 k29 x6 x7 x8 M → gW p l e (gRm 4 100) s m args below meth c D cy A H0 Q 10 kd ln rh 0 0 M 49 [(0, .ref (gad a0)), (1, .int (gI a1)), (2, .int (gI a2)), (3, .int (gI a3)), (4, .int (gI a4)), (5, .int (gI a5)), (6, .int (gI x6)), (7, .int (gI x7)), (8, .int (gI x8))] [] := by
    intro k20 hk20_ k29 hk29_ x6 x7 x8 M h
    unfold wX7_find_49 at h
    refine q_aload_n C 0 rfl rfl dX7_find_49 ?_
    refine q_iload C 6 rfl dX7_find_50 ?_
    refine q_iload C 7 rfl dX7_find_52 ?_
    refine q_iload C 8 rfl dX7_find_54 ?_
    refine q_callVI (As := [.int (gI x6), .int (gI x7), .int (gI x8)]) (st := []) C vX7_92 kX7_off ⟨Nat.le_of_ble_eq_true rfl, Nat.le_of_ble_eq_true rfl⟩ ⟨Nat.le_of_ble_eq_true rfl, Nat.le_of_ble_eq_true rfl⟩ rfl hk0 ⟨_, _, rfl⟩ (by decide) rfl (Nat.le_of_ble_eq_true rfl) (mX7_off l D cy kd ln rh _ a0 x6 x7 x8 M hk0 h) dX7_find_56 (fun c56 M55 g57 h => ?_)
    have h := h g57
    exact t59 k20 hk20_ k29 hk29_ x6 x7 x8 c56 M55 h
  have t29 : ∀ (k20 : Int → Int → gM → Prop), (∀ (x6 : Int), ∀ (x7 : Int), ∀ (M : gM), k20 x6 x7 M → gW p l e (gRm 4 100) s m args below meth c D cy A H0 Q 10 kd ln rh 0 0 M 20 [(0, .ref (gad a0)), (1, .int (gI a1)), (2, .int (gI a2)), (3, .int (gI a3)), (4, .int (gI a4)), (5, .int (gI a5)), (6, .int (gI x6)), (7, .int (gI x7))] []) → ∀ (n : Nat) (x6 : Int) (x7 : Int) (x8 : Int) (M : gM), wX7_find_29 kd ln post a0 a1 a2 a3 a4 a5 k20 n x6 x7 x8 M → gW p l e (gRm 4 100) s m args below meth c D cy A H0 Q 10 kd ln rh 0 0 M 29 [(0, .ref (gad a0)), (1, .int (gI a1)), (2, .int (gI a2)), (3, .int (gI a3)), (4, .int (gI a4)), (5, .int (gI a5)), (6, .int (gI x6)), (7, .int (gI x7)), (8, .int (gI x8))] [] := by
    intro k20 hk20_
    intro n
    induction n with
    | zero => intro x6 x7 x8 M h; exact absurd h (by simp [wX7_find_29])
    | succ n ih =>
      intro x6 x7 x8 M h
      have hk29_ := ih
      rw [wX7_find_29] at h
      refine q_iload C 8 rfl dX7_find_29 ?_
      refine q_iconst C dX7_find_31 ?_
      obtain ⟨r9, h⟩ := h
      refine q_icmp_gt (tgt := 205) C r9 (show rng 1 by decide) (by decide) dX7_find_32 (fun b10 => ?_) (fun b10 => ?_)
      · have h := h.1 b10
        refine q_iinc (lv' := [(7, .int (gI (x7 + 1))), (0, .ref (gad a0)), (1, .int (gI a1)), (2, .int (gI a2)), (3, .int (gI a3)), (4, .int (gI a4)), (5, .int (gI a5)), (6, .int (gI x6)), (8, .int (gI x8))]) C 7 rfl (by decide) rfl dX7_find_205 ?_
        refine q_goto (tgt := 20) C (by decide) dX7_find_208 ?_
        refine q_lv (lv' := [(0, .ref (gad a0)), (1, .int (gI a1)), (2, .int (gI a2)), (3, .int (gI a3)), (4, .int (gI a4)), (5, .int (gI a5)), (6, .int (gI x6)), (7, .int (gI (x7 + 1)))]) [1, 2, 3, 4, 5, 6, 7, 0] rfl ?_
        exact hk20_ x6 (x7 + 1) M h
      · have h := h.2 b10
        refine q_iload C 7 rfl dX7_find_35 ?_
        obtain ⟨r11, h⟩ := h
        refine q_if_ne (tgt := 49) C r11 (by decide) dX7_find_37 (fun b12 => ?_) (fun b12 => ?_)
        · have h := h.1 b12
          exact t49 k20 hk20_ (wX7_find_29 kd ln post a0 a1 a2 a3 a4 a5 k20 n) hk29_ x6 x7 x8 M h
        · have h := h.2 b12
          refine q_iload C 8 rfl dX7_find_40 ?_
          refine q_if_ne (tgt := 49) C r9 (by decide) dX7_find_42 (fun b13 => ?_) (fun b13 => ?_)
          · have h := h.1 b13
            exact t49 k20 hk20_ (wX7_find_29 kd ln post a0 a1 a2 a3 a4 a5 k20 n) hk29_ x6 x7 x8 M h
          · have h := h.2 b13
            refine q_iconst C dX7_find_45 ?_
            refine q_goto (tgt := 59) C (by decide) dX7_find_46 ?_
            exact t59 k20 hk20_ (wX7_find_29 kd ln post a0 a1 a2 a3 a4 a5 k20 n) hk29_ x6 x7 x8 (-1) M h
  have t273 : ∀ (k224 : Int → gM → Prop), (∀ (x7 : Int), ∀ (M : gM), k224 x7 M → gW p l e (gRm 4 100) s m args below meth c D cy A H0 Q 10 kd ln rh 0 0 M 224 [(0, .ref (gad a0)), (1, .int (gI a1)), (2, .int (gI a2)), (3, .int (gI a3)), (4, .int (gI a4)), (5, .int (gI a5)), (7, .int (gI x7))] []) → ∀ (x7 : Int) (M : gM), wX7_find_273 kd ln post a0 a1 a2 a3 a4 a5 k224 x7 M → gW p l e (gRm 4 100) s m args below meth c D cy A H0 Q 10 kd ln rh 0 0 M 273 [(0, .ref (gad a0)), (1, .int (gI a1)), (2, .int (gI a2)), (3, .int (gI a3)), (4, .int (gI a4)), (5, .int (gI a5)), (7, .int (gI x7))] [] := by
    intro k224 hk224_ x7 M h
    unfold wX7_find_273 at h
    refine q_iinc (lv' := [(7, .int (gI (x7 + 1))), (0, .ref (gad a0)), (1, .int (gI a1)), (2, .int (gI a2)), (3, .int (gI a3)), (4, .int (gI a4)), (5, .int (gI a5))]) C 6 rfl (by decide) rfl dX7_find_273 ?_
    refine q_goto (tgt := 224) C (by decide) dX7_find_276 ?_
    refine q_lv (lv' := [(0, .ref (gad a0)), (1, .int (gI a1)), (2, .int (gI a2)), (3, .int (gI a3)), (4, .int (gI a4)), (5, .int (gI a5)), (7, .int (gI (x7 + 1)))]) [1, 2, 3, 4, 5, 6, 0] rfl ?_
    exact hk224_ (x7 + 1) M h
  have t279 : ∀ (M : gM), wX7_find_279 kd ln post a0 a1 a2 a3 a4 a5  M → gW p l e (gRm 4 100) s m args below meth c D cy A H0 Q 10 kd ln rh 0 0 M 279 [(0, .ref (gad a0)), (1, .int (gI a1)), (2, .int (gI a2)), (3, .int (gI a3)), (4, .int (gI a4)), (5, .int (gI a5))] [] := by
    intro   M h
    unfold wX7_find_279 at h
    refine q_iload C 5 rfl dX7_find_279 ?_
    obtain ⟨r72, h⟩ := h
    refine q_if_ne (tgt := 297) C r72 (by decide) dX7_find_281 (fun b73 => ?_) (fun b73 => ?_)
    · have h := h.1 b73
      exact hret M _ _ dX7_find_297 h
    · have h := h.2 b73
      refine q_iload_n C 1 rfl rfl dX7_find_284 ?_
      refine q_iconst C dX7_find_285 ?_
      obtain ⟨r74, h⟩ := h
      refine q_icmp_ne (tgt := 297) C r74 (show rng 2 by decide) (by decide) dX7_find_286 (fun b75 => ?_) (fun b75 => ?_)
      · have h := h.1 b75
        exact hret M _ _ dX7_find_297 h
      · have h := h.2 b75
        refine q_aload_n C 0 rfl rfl dX7_find_289 ?_
        refine q_iload_n C 2 rfl rfl dX7_find_290 ?_
        refine q_iload_n C 3 rfl rfl dX7_find_291 ?_
        refine q_iload C 4 rfl dX7_find_292 ?_
        refine q_callVV (As := [.int (gI a2), .int (gI a3), .int (gI a4)]) (st := []) C vX7_114 kX7_pawnMoves ⟨Nat.le_of_ble_eq_true rfl, Nat.le_of_ble_eq_true rfl⟩ ⟨Nat.le_of_ble_eq_true rfl, Nat.le_of_ble_eq_true rfl⟩ rfl hk0 ⟨_, _, rfl⟩ (by decide) rfl (Nat.le_of_ble_eq_true rfl) (mX7_pawnMoves l D cy kd ln rh _ a0 a2 a3 a4 M hk0 h) dX7_find_294 (fun M76 h => ?_)
        exact hret M76 _ _ dX7_find_297 h
  have t224 : ∀ (n : Nat) (x7 : Int) (M : gM), wX7_find_224 kd ln post a0 a1 a2 a3 a4 a5 n x7 M → gW p l e (gRm 4 100) s m args below meth c D cy A H0 Q 10 kd ln rh 0 0 M 224 [(0, .ref (gad a0)), (1, .int (gI a1)), (2, .int (gI a2)), (3, .int (gI a3)), (4, .int (gI a4)), (5, .int (gI a5)), (7, .int (gI x7))] [] := by
    intro n
    induction n with
    | zero => intro x7 M h; exact absurd h (by simp [wX7_find_224])
    | succ n ih =>
      intro x7 M h
      have hk224_ := ih
      rw [wX7_find_224] at h
      refine q_iload C 6 rfl dX7_find_224 ?_
      refine q_aload_n C 0 rfl rfl dX7_find_226 ?_
      refine q_get (v := .int (gI (M a0 2 (-1)))) C fX7_13 hk0 rfl dX7_find_227 (fun g58 => ?_)
      have h := h g58
      obtain ⟨r59, h⟩ := h
      refine q_icmp_ge (tgt := 279) C r59 g58 (by decide) dX7_find_230 (fun b60 => ?_) (fun b60 => ?_)
      · have h := h.1 b60
        refine q_lv (lv' := [(0, .ref (gad a0)), (1, .int (gI a1)), (2, .int (gI a2)), (3, .int (gI a3)), (4, .int (gI a4)), (5, .int (gI a5))]) [0, 1, 2, 3, 4, 5] rfl ?_
        exact t279  M h
      · have h := h.2 b60
        refine q_iload C 6 rfl dX7_find_233 ?_
        refine q_iload_n C 2 rfl rfl dX7_find_235 ?_
        obtain ⟨r61, h⟩ := h
        refine q_icmp_eq (tgt := 273) C r59 r61 (by decide) dX7_find_236 (fun b62 => ?_) (fun b62 => ?_)
        · have h := h.1 b62
          exact t273 (wX7_find_224 kd ln post a0 a1 a2 a3 a4 a5 n) hk224_ x7 M h
        · have h := h.2 b62
          refine q_iload C 6 rfl dX7_find_239 ?_
          refine q_iload_n C 3 rfl rfl dX7_find_241 ?_
          obtain ⟨r63, h⟩ := h
          refine q_icmp_eq (tgt := 273) C r59 r63 (by decide) dX7_find_242 (fun b64 => ?_) (fun b64 => ?_)
          · have h := h.1 b64
            exact t273 (wX7_find_224 kd ln post a0 a1 a2 a3 a4 a5 n) hk224_ x7 M h
          · have h := h.2 b64
            refine q_aload_n C 0 rfl rfl dX7_find_245 ?_
            refine q_iload_n C 1 rfl rfl dX7_find_246 ?_
            refine q_iload_n C 2 rfl rfl dX7_find_247 ?_
            refine q_iload_n C 3 rfl rfl dX7_find_248 ?_
            refine q_iload C 4 rfl dX7_find_249 ?_
            refine q_iload C 6 rfl dX7_find_251 ?_
            refine q_callVI (As := [.int (gI a1), .int (gI a2), .int (gI a3), .int (gI a4), .int (gI x7)]) (st := []) C vX7_100 kX7_attacks ⟨Nat.le_of_ble_eq_true rfl, Nat.le_of_ble_eq_true rfl⟩ ⟨Nat.le_of_ble_eq_true rfl, Nat.le_of_ble_eq_true rfl⟩ rfl hk0 ⟨_, _, rfl⟩ (by decide) rfl (Nat.le_of_ble_eq_true rfl) (mX7_attacks l D cy kd ln rh _ a0 a1 a2 a3 a4 x7 M hk0 h) dX7_find_253 (fun c66 M65 g67 h => ?_)
            have h := h g67
            refine q_if_eq (tgt := 273) C g67 (by decide) dX7_find_256 (fun b68 => ?_) (fun b68 => ?_)
            · have h := h.1 b68
              exact t273 (wX7_find_224 kd ln post a0 a1 a2 a3 a4 a5 n) hk224_ x7 M65 h
            · have h := h.2 b68
              refine q_aload_n C 0 rfl rfl dX7_find_259 ?_
              refine q_iload C 4 rfl dX7_find_260 ?_
              refine q_iload C 6 rfl dX7_find_262 ?_
              refine q_iconst C dX7_find_264 ?_
              refine q_iload_n C 1 rfl rfl dX7_find_265 ?_
              refine q_iload_n C 2 rfl rfl dX7_find_266 ?_
              refine q_iload_n C 3 rfl rfl dX7_find_267 ?_
              refine q_iload C 6 rfl dX7_find_268 ?_
              refine q_callVV (As := [.int (gI a4), .int (gI x7), .int (gI (-1)), .int (gI a1), .int (gI a2), .int (gI a3), .int (gI x7)]) (st := []) C vX7_110 kX7_add ⟨Nat.le_of_ble_eq_true rfl, Nat.le_of_ble_eq_true rfl⟩ ⟨Nat.le_of_ble_eq_true rfl, Nat.le_of_ble_eq_true rfl⟩ rfl hk0 ⟨_, _, rfl⟩ (by decide) rfl (Nat.le_of_ble_eq_true rfl) (mX7_add l D cy kd ln rh _ a0 a4 x7 (-1) a1 a2 a3 x7 M65 hk0 h) dX7_find_270 (fun M69 h => ?_)
              exact t273 (wX7_find_224 kd ln post a0 a1 a2 a3 a4 a5 n) hk224_ x7 M69 h
  have t20 : ∀ (n : Nat) (x6 : Int) (x7 : Int) (M : gM), wX7_find_20 kd ln post a0 a1 a2 a3 a4 a5 n x6 x7 M → gW p l e (gRm 4 100) s m args below meth c D cy A H0 Q 10 kd ln rh 0 0 M 20 [(0, .ref (gad a0)), (1, .int (gI a1)), (2, .int (gI a2)), (3, .int (gI a3)), (4, .int (gI a4)), (5, .int (gI a5)), (6, .int (gI x6)), (7, .int (gI x7))] [] := by
    intro n
    induction n with
    | zero => intro x6 x7 M h; exact absurd h (by simp [wX7_find_20])
    | succ n ih =>
      intro x6 x7 M h
      have hk20_ := ih
      rw [wX7_find_20] at h
      refine q_iload C 7 rfl dX7_find_20 ?_
      refine q_iconst C dX7_find_22 ?_
      obtain ⟨r3, h⟩ := h
      refine q_icmp_gt (tgt := 211) C r3 (show rng 1 by decide) (by decide) dX7_find_23 (fun b4 => ?_) (fun b4 => ?_)
      · have h := h.1 b4
        refine q_iload C 5 rfl dX7_find_211 ?_
        obtain ⟨r5, h⟩ := h
        refine q_if_ne (tgt := 279) C r5 (by decide) dX7_find_213 (fun b6 => ?_) (fun b6 => ?_)
        · have h := h.1 b6
          refine q_lv (lv' := [(0, .ref (gad a0)), (1, .int (gI a1)), (2, .int (gI a2)), (3, .int (gI a3)), (4, .int (gI a4)), (5, .int (gI a5))]) [0, 1, 2, 3, 4, 5] rfl ?_
          exact t279  M h
        · have h := h.2 b6
          refine q_iload_n C 1 rfl rfl dX7_find_216 ?_
          refine q_iconst C dX7_find_217 ?_
          obtain ⟨r7, h⟩ := h
          refine q_icmp_ge (tgt := 279) C r7 (show rng 2 by decide) (by decide) dX7_find_218 (fun b8 => ?_) (fun b8 => ?_)
          · have h := h.1 b8
            refine q_lv (lv' := [(0, .ref (gad a0)), (1, .int (gI a1)), (2, .int (gI a2)), (3, .int (gI a3)), (4, .int (gI a4)), (5, .int (gI a5))]) [0, 1, 2, 3, 4, 5] rfl ?_
            exact t279  M h
          · have h := h.2 b8
            refine q_iconst C dX7_find_221 ?_
            refine q_istore (lv' := [(7, .int (gI 0)), (0, .ref (gad a0)), (1, .int (gI a1)), (2, .int (gI a2)), (3, .int (gI a3)), (4, .int (gI a4)), (5, .int (gI a5)), (6, .int (gI x6))]) C (by decide) rfl dX7_find_222 ?_
            refine q_lv (lv' := [(0, .ref (gad a0)), (1, .int (gI a1)), (2, .int (gI a2)), (3, .int (gI a3)), (4, .int (gI a4)), (5, .int (gI a5)), (7, .int (gI 0))]) [1, 2, 3, 4, 5, 6, 0] rfl ?_
            obtain ⟨j224, h⟩ := h
            exact t224  j224 0 M h
      · have h := h.2 b4
        refine q_iconst C dX7_find_26 ?_
        refine q_istore (lv' := [(8, .int (gI (-1))), (0, .ref (gad a0)), (1, .int (gI a1)), (2, .int (gI a2)), (3, .int (gI a3)), (4, .int (gI a4)), (5, .int (gI a5)), (6, .int (gI x6)), (7, .int (gI x7))]) C (by decide) rfl dX7_find_27 ?_
        refine q_lv (lv' := [(0, .ref (gad a0)), (1, .int (gI a1)), (2, .int (gI a2)), (3, .int (gI a3)), (4, .int (gI a4)), (5, .int (gI a5)), (6, .int (gI x6)), (7, .int (gI x7)), (8, .int (gI (-1)))]) [1, 2, 3, 4, 5, 6, 7, 8, 0] rfl ?_
        obtain ⟨j29, h⟩ := h
        exact t29 (wX7_find_20 kd ln post a0 a1 a2 a3 a4 a5 n) hk20_ j29 x6 x7 (-1) M h
  have t15 : ∀ (y0 : Int) (M : gM), wX7_find_15 kd ln post a0 a1 a2 a3 a4 a5 y0 M → gW p l e (gRm 4 100) s m args below meth c D cy A H0 Q 10 kd ln rh 0 0 M 15 [(0, .ref (gad a0)), (1, .int (gI a1)), (2, .int (gI a2)), (3, .int (gI a3)), (4, .int (gI a4)), (5, .int (gI a5))] [.int (gI y0)] := by
    intro  y0 M h
    unfold wX7_find_15 at h
    refine q_istore (lv' := [(6, .int (gI y0)), (0, .ref (gad a0)), (1, .int (gI a1)), (2, .int (gI a2)), (3, .int (gI a3)), (4, .int (gI a4)), (5, .int (gI a5))]) C (by decide) rfl dX7_find_15 ?_
    refine q_iconst C dX7_find_17 ?_
    refine q_istore (lv' := [(7, .int (gI (-1))), (6, .int (gI y0)), (0, .ref (gad a0)), (1, .int (gI a1)), (2, .int (gI a2)), (3, .int (gI a3)), (4, .int (gI a4)), (5, .int (gI a5))]) C (by decide) rfl dX7_find_18 ?_
    refine q_lv (lv' := [(0, .ref (gad a0)), (1, .int (gI a1)), (2, .int (gI a2)), (3, .int (gI a3)), (4, .int (gI a4)), (5, .int (gI a5)), (6, .int (gI y0)), (7, .int (gI (-1)))]) [2, 3, 4, 5, 6, 7, 1, 0] rfl ?_
    obtain ⟨j20, h⟩ := h
    exact t20  j20 y0 (-1) M h
  unfold wX7_find at h
  refine q_aload_n C 0 rfl rfl dX7_find_0 ?_
  refine q_iconst C dX7_find_1 ?_
  refine q_put (x := 0) (ty := .int) C fX7_104 hk0 (fun _ _ _ q => by cases q; rfl) (congrArg (fun z => Value.int (gI z)) gu_s) rfl rfl (show rng 0 by decide) (fun j q => absurd (show (0 : Nat) = j + 3 from q) (by omega)) dX7_find_2 ?_
  refine q_iload C 5 rfl dX7_find_5 ?_
  obtain ⟨r1, h⟩ := h
  refine q_if_ne (tgt := 14) C r1 (by decide) dX7_find_7 (fun b2 => ?_) (fun b2 => ?_)
  · have h := h.1 b2
    refine q_iload_n C 3 rfl rfl dX7_find_14 ?_
    exact t15  a3 (gu M a0 12 (-1) 0) h
  · have h := h.2 b2
    refine q_iload_n C 2 rfl rfl dX7_find_10 ?_
    refine q_goto (tgt := 15) C (by decide) dX7_find_11 ?_
    exact t15  a2 (gu M a0 12 (-1) 0) h
set_option maxHeartbeats 4000000 in
set_option maxRecDepth 100000 in
theorem mX7_allDecided (l : Launch) (D : va_G) (cy : Nat → ClassId) (kd : gKd) (ln : gLn) (rh : gRh) (post : Int → gM → Prop) (a0 : Int) (a1 : Int) (a2 : Int) (a3 : Int) (a4 : Int) (M : gM) (hk0 : kd a0 = 7) (h : wX7_allDecided kd ln post a0 a1 a2 a3 a4 M) : gMI l D cy yX7_allDecided cX7_allDecided 6 .boolean 5 129 [.ref (gad a0), .int (gI a1), .int (gI a2), .int (gI a3), .int (gI a4)] kd ln rh M post := by
  refine gMI_ofZ (own := RX7) (by decide) rfl (Nat.le_of_ble_eq_true rfl) ?_
  intro p e s m args below meth c A H0 Q C hret
  have t13 : ∀ (n : Nat) (x5 : Int) (M : gM), wX7_allDecided_13 kd ln post a0 a1 a2 a3 a4 n x5 M → gW p l e (gRm 5 129) s m args below meth c D cy A H0 Q 6 kd ln rh 0 0 M 13 [(0, .ref (gad a0)), (5, .int (gI x5))] [] := by
    intro n
    induction n with
    | zero => intro x5 M h; exact absurd h (by simp [wX7_allDecided_13])
    | succ n ih =>
      intro x5 M h
      have hk13_ := ih
      rw [wX7_allDecided_13] at h
      refine q_iload C 1 rfl dX7_allDecided_13 ?_
      refine q_aload_n C 0 rfl rfl dX7_allDecided_15 ?_
      refine q_get (v := .int (gI (M a0 12 (-1)))) C fX7_104 hk0 rfl dX7_allDecided_16 (fun g4 => ?_)
      have h := h g4
      obtain ⟨r5, h⟩ := h
      refine q_icmp_ge (tgt := 41) C r5 g4 (by decide) dX7_allDecided_19 (fun b6 => ?_) (fun b6 => ?_)
      · have h := h.1 b6
        refine q_aload_n C 0 rfl rfl dX7_allDecided_41 ?_
        refine q_get (v := .int (gI (M a0 12 (-1)))) C fX7_104 hk0 rfl dX7_allDecided_42 (fun g7 => ?_)
        refine q_if_le (tgt := 52) C g4 (by decide) dX7_allDecided_45 (fun b8 => ?_) (fun b8 => ?_)
        · have h := h.1 b8
          refine q_iconst C dX7_allDecided_52 ?_
          exact hret 0 M _ _ dX7_allDecided_53 (Or.inl rfl) h
        · have h := h.2 b8
          refine q_iconst C dX7_allDecided_48 ?_
          refine q_goto (tgt := 53) C (by decide) dX7_allDecided_49 ?_
          exact hret 1 M _ _ dX7_allDecided_53 (Or.inr rfl) h
      · have h := h.2 b6
        refine q_aload_n C 0 rfl rfl dX7_allDecided_22 ?_
        refine q_iload C 1 rfl dX7_allDecided_23 ?_
        refine q_iconst C dX7_allDecided_25 ?_
        refine q_callVI (As := [.int (gI x5), .int (gI 1)]) (st := []) C vX7_166 kX7_after ⟨Nat.le_of_ble_eq_true rfl, Nat.le_of_ble_eq_true rfl⟩ ⟨Nat.le_of_ble_eq_true rfl, Nat.le_of_ble_eq_true rfl⟩ rfl hk0 ⟨_, _, rfl⟩ (by decide) rfl (Nat.le_of_ble_eq_true rfl) (mX7_after l D cy kd ln rh _ a0 x5 1 M hk0 h) dX7_allDecided_26 (fun c10 M9 g11 h => ?_)
        have h := h g11
        refine q_iconst C dX7_allDecided_29 ?_
        refine q_icmp_ne (tgt := 35) C g11 (show rng (-1) by decide) (by decide) dX7_allDecided_30 (fun b12 => ?_) (fun b12 => ?_)
        · have h := h.1 b12
          refine q_iinc (lv' := [(5, .int (gI (x5 + 1))), (0, .ref (gad a0))]) C 1 rfl (by decide) rfl dX7_allDecided_35 ?_
          refine q_goto (tgt := 13) C (by decide) dX7_allDecided_38 ?_
          refine q_lv (lv' := [(0, .ref (gad a0)), (5, .int (gI (x5 + 1)))]) [1, 0] rfl ?_
          exact hk13_ (x5 + 1) M9 h
        · have h := h.2 b12
          refine q_iconst C dX7_allDecided_33 ?_
          exact hret 0 M9 _ _ dX7_allDecided_34 (Or.inl rfl) h
  unfold wX7_allDecided at h
  refine q_aload_n C 0 rfl rfl dX7_allDecided_0 ?_
  refine q_iload_n C 1 rfl rfl dX7_allDecided_1 ?_
  refine q_iload_n C 2 rfl rfl dX7_allDecided_2 ?_
  refine q_iload_n C 3 rfl rfl dX7_allDecided_3 ?_
  refine q_iload C 4 rfl dX7_allDecided_4 ?_
  refine q_iconst C dX7_allDecided_6 ?_
  refine q_callVV (As := [.int (gI a1), .int (gI a2), .int (gI a3), .int (gI a4), .int (gI 1)]) (st := []) C vX7_138 kX7_find ⟨Nat.le_of_ble_eq_true rfl, Nat.le_of_ble_eq_true rfl⟩ ⟨Nat.le_of_ble_eq_true rfl, Nat.le_of_ble_eq_true rfl⟩ rfl hk0 ⟨_, _, rfl⟩ (by decide) rfl (Nat.le_of_ble_eq_true rfl) (mX7_find l D cy kd ln rh _ a0 a1 a2 a3 a4 1 M hk0 h) dX7_allDecided_7 (fun M1 h => ?_)
  refine q_iconst C dX7_allDecided_10 ?_
  refine q_istore (lv' := [(5, .int (gI 0)), (0, .ref (gad a0)), (1, .int (gI a1)), (2, .int (gI a2)), (3, .int (gI a3)), (4, .int (gI a4))]) C (by decide) rfl dX7_allDecided_11 ?_
  refine q_lv (lv' := [(0, .ref (gad a0)), (5, .int (gI 0))]) [1, 0] rfl ?_
  obtain ⟨j13, h⟩ := h
  exact t13  j13 0 M1 h
set_option maxHeartbeats 4000000 in
set_option maxRecDepth 100000 in
theorem mX7_areNumbers (l : Launch) (D : va_G) (cy : Nat → ClassId) (kd : gKd) (ln : gLn) (rh : gRh) (post : Int → gM → Prop) (a0 : Int) (a1 : Int) (a2 : Int) (a3 : Int) (a4 : Int) (a5 : Int) (M : gM) (hk0 : kd a0 = 7) (h : wX7_areNumbers kd ln post a0 a1 a2 a3 a4 a5 M) : gMI l D cy yX7_areNumbers cX7_areNumbers 6 .boolean 1 22 [.ref (gad a0), .int (gI a1), .int (gI a2), .int (gI a3), .int (gI a4), .int (gI a5)] kd ln rh M post := by
  refine gMI_ofZ (own := RX7) (by decide) rfl (Nat.le_of_ble_eq_true rfl) ?_
  intro p e s m args below meth c A H0 Q C hret
  unfold wX7_areNumbers at h
  refine q_iload_n C 1 rfl rfl dX7_areNumbers_0 ?_
  refine q_iconst C dX7_areNumbers_1 ?_
  refine q_iconst C dX7_areNumbers_2 ?_
  refine q_callSI (As := [.int (gI a1), .int (gI 0), .int (gI 2)]) (st := []) C vX7_84 kX7_in ⟨Nat.le_of_ble_eq_true rfl, Nat.le_of_ble_eq_true rfl⟩ ⟨Nat.le_of_ble_eq_true rfl, Nat.le_of_ble_eq_true rfl⟩ rfl rfl (Nat.le_of_ble_eq_true rfl) (mX7_in l D cy kd ln rh _ a1 0 2 M  h) dX7_areNumbers_3 (fun c2 M1 g3 h => ?_)
  have h := h g3
  refine q_if_eq (tgt := 66) C g3 (by decide) dX7_areNumbers_6 (fun b4 => ?_) (fun b4 => ?_)
  · have h := h.1 b4
    refine q_iconst C dX7_areNumbers_66 ?_
    exact hret 0 M1 _ _ dX7_areNumbers_67 (Or.inl rfl) h
  · have h := h.2 b4
    refine q_iload_n C 2 rfl rfl dX7_areNumbers_9 ?_
    refine q_iconst C dX7_areNumbers_10 ?_
    refine q_aload_n C 0 rfl rfl dX7_areNumbers_11 ?_
    refine q_get (v := .int (gI (M1 a0 2 (-1)))) C fX7_13 hk0 rfl dX7_areNumbers_12 (fun g5 => ?_)
    have h := h g5
    refine q_iconst C dX7_areNumbers_15 ?_
    refine q_isub C dX7_areNumbers_16 ?_
    refine q_callSI (As := [.int (gI a2), .int (gI 0), .int (gI ((M1 a0 2 (-1)) - 1))]) (st := []) C vX7_84 kX7_in ⟨Nat.le_of_ble_eq_true rfl, Nat.le_of_ble_eq_true rfl⟩ ⟨Nat.le_of_ble_eq_true rfl, Nat.le_of_ble_eq_true rfl⟩ rfl rfl (Nat.le_of_ble_eq_true rfl) (mX7_in l D cy kd ln rh _ a2 0 ((M1 a0 2 (-1)) - 1) M1  h) dX7_areNumbers_17 (fun c7 M6 g8 h => ?_)
    have h := h g8
    refine q_if_eq (tgt := 66) C g8 (by decide) dX7_areNumbers_20 (fun b9 => ?_) (fun b9 => ?_)
    · have h := h.1 b9
      refine q_iconst C dX7_areNumbers_66 ?_
      exact hret 0 M6 _ _ dX7_areNumbers_67 (Or.inl rfl) h
    · have h := h.2 b9
      refine q_iload_n C 3 rfl rfl dX7_areNumbers_23 ?_
      refine q_iconst C dX7_areNumbers_24 ?_
      refine q_aload_n C 0 rfl rfl dX7_areNumbers_25 ?_
      refine q_get (v := .int (gI (M6 a0 2 (-1)))) C fX7_13 hk0 rfl dX7_areNumbers_26 (fun g10 => ?_)
      have h := h g10
      refine q_iconst C dX7_areNumbers_29 ?_
      refine q_isub C dX7_areNumbers_30 ?_
      refine q_callSI (As := [.int (gI a3), .int (gI 0), .int (gI ((M6 a0 2 (-1)) - 1))]) (st := []) C vX7_84 kX7_in ⟨Nat.le_of_ble_eq_true rfl, Nat.le_of_ble_eq_true rfl⟩ ⟨Nat.le_of_ble_eq_true rfl, Nat.le_of_ble_eq_true rfl⟩ rfl rfl (Nat.le_of_ble_eq_true rfl) (mX7_in l D cy kd ln rh _ a3 0 ((M6 a0 2 (-1)) - 1) M6  h) dX7_areNumbers_31 (fun c12 M11 g13 h => ?_)
      have h := h g13
      refine q_if_eq (tgt := 66) C g13 (by decide) dX7_areNumbers_34 (fun b14 => ?_) (fun b14 => ?_)
      · have h := h.1 b14
        refine q_iconst C dX7_areNumbers_66 ?_
        exact hret 0 M11 _ _ dX7_areNumbers_67 (Or.inl rfl) h
      · have h := h.2 b14
        refine q_iload C 4 rfl dX7_areNumbers_37 ?_
        refine q_iconst C dX7_areNumbers_39 ?_
        refine q_aload_n C 0 rfl rfl dX7_areNumbers_40 ?_
        refine q_get (v := .int (gI (M11 a0 2 (-1)))) C fX7_13 hk0 rfl dX7_areNumbers_41 (fun g15 => ?_)
        have h := h g15
        refine q_iconst C dX7_areNumbers_44 ?_
        refine q_isub C dX7_areNumbers_45 ?_
        refine q_callSI (As := [.int (gI a4), .int (gI 0), .int (gI ((M11 a0 2 (-1)) - 1))]) (st := []) C vX7_84 kX7_in ⟨Nat.le_of_ble_eq_true rfl, Nat.le_of_ble_eq_true rfl⟩ ⟨Nat.le_of_ble_eq_true rfl, Nat.le_of_ble_eq_true rfl⟩ rfl rfl (Nat.le_of_ble_eq_true rfl) (mX7_in l D cy kd ln rh _ a4 0 ((M11 a0 2 (-1)) - 1) M11  h) dX7_areNumbers_46 (fun c17 M16 g18 h => ?_)
        have h := h g18
        refine q_if_eq (tgt := 66) C g18 (by decide) dX7_areNumbers_49 (fun b19 => ?_) (fun b19 => ?_)
        · have h := h.1 b19
          refine q_iconst C dX7_areNumbers_66 ?_
          exact hret 0 M16 _ _ dX7_areNumbers_67 (Or.inl rfl) h
        · have h := h.2 b19
          refine q_iload C 5 rfl dX7_areNumbers_52 ?_
          refine q_iconst C dX7_areNumbers_54 ?_
          refine q_iconst C dX7_areNumbers_55 ?_
          refine q_callSI (As := [.int (gI a5), .int (gI 0), .int (gI 1)]) (st := []) C vX7_84 kX7_in ⟨Nat.le_of_ble_eq_true rfl, Nat.le_of_ble_eq_true rfl⟩ ⟨Nat.le_of_ble_eq_true rfl, Nat.le_of_ble_eq_true rfl⟩ rfl rfl (Nat.le_of_ble_eq_true rfl) (mX7_in l D cy kd ln rh _ a5 0 1 M16  h) dX7_areNumbers_56 (fun c21 M20 g22 h => ?_)
          have h := h g22
          refine q_if_eq (tgt := 66) C g22 (by decide) dX7_areNumbers_59 (fun b23 => ?_) (fun b23 => ?_)
          · have h := h.1 b23
            refine q_iconst C dX7_areNumbers_66 ?_
            exact hret 0 M20 _ _ dX7_areNumbers_67 (Or.inl rfl) h
          · have h := h.2 b23
            refine q_iconst C dX7_areNumbers_62 ?_
            refine q_goto (tgt := 67) C (by decide) dX7_areNumbers_63 ?_
            exact hret 1 M20 _ _ dX7_areNumbers_67 (Or.inr rfl) h
set_option maxHeartbeats 4000000 in
set_option maxRecDepth 100000 in
theorem mX7_isOpen (l : Launch) (D : va_G) (cy : Nat → ClassId) (kd : gKd) (ln : gLn) (rh : gRh) (post : Int → gM → Prop) (a0 : Int) (a1 : Int) (a2 : Int) (a3 : Int) (a4 : Int) (a5 : Int) (M : gM) (hk0 : kd a0 = 7) (h : wX7_isOpen kd ln post a0 a1 a2 a3 a4 a5 M) : gMI l D cy yX7_isOpen cX7_isOpen 6 .boolean 4 100 [.ref (gad a0), .int (gI a1), .int (gI a2), .int (gI a3), .int (gI a4), .int (gI a5)] kd ln rh M post := by
  refine gMI_ofZ (own := RX7) (by decide) rfl (Nat.le_of_ble_eq_true rfl) ?_
  intro p e s m args below meth c A H0 Q C hret
  unfold wX7_isOpen at h
  refine q_aload_n C 0 rfl rfl dX7_isOpen_0 ?_
  refine q_iload_n C 1 rfl rfl dX7_isOpen_1 ?_
  refine q_iload_n C 2 rfl rfl dX7_isOpen_2 ?_
  refine q_iload_n C 3 rfl rfl dX7_isOpen_3 ?_
  refine q_iload C 4 rfl dX7_isOpen_4 ?_
  refine q_iload C 5 rfl dX7_isOpen_6 ?_
  refine q_callVI (As := [.int (gI a1), .int (gI a2), .int (gI a3), .int (gI a4), .int (gI a5)]) (st := []) C vX7_107 kX7_legal ⟨Nat.le_of_ble_eq_true rfl, Nat.le_of_ble_eq_true rfl⟩ ⟨Nat.le_of_ble_eq_true rfl, Nat.le_of_ble_eq_true rfl⟩ rfl hk0 ⟨_, _, rfl⟩ (by decide) rfl (Nat.le_of_ble_eq_true rfl) (mX7_legal l D cy kd ln rh _ a0 a1 a2 a3 a4 a5 M hk0 h) dX7_isOpen_8 (fun c2 M1 g3 h => ?_)
  have h := h g3
  refine q_if_eq (tgt := 41) C g3 (by decide) dX7_isOpen_11 (fun b4 => ?_) (fun b4 => ?_)
  · have h := h.1 b4
    refine q_iconst C dX7_isOpen_41 ?_
    exact hret 0 M1 _ _ dX7_isOpen_42 (Or.inl rfl) h
  · have h := h.2 b4
    refine q_aload_n C 0 rfl rfl dX7_isOpen_14 ?_
    obtain ⟨r5, h⟩ := h
    refine q_get (v := .ref (rh a0 4)) C fX7_21 hk0 (if_neg (Int.not_lt.mpr r5)) dX7_isOpen_15 (fun g6 => ?_)
    refine q_ldc (n := 524288) C nX7_118 (by decide) dX7_isOpen_18 ?_
    refine q_iload_n C 1 rfl rfl dX7_isOpen_20 ?_
    refine q_imul C dX7_isOpen_21 ?_
    refine q_aload_n C 0 rfl rfl dX7_isOpen_22 ?_
    refine q_iload_n C 2 rfl rfl dX7_isOpen_23 ?_
    refine q_iload_n C 3 rfl rfl dX7_isOpen_24 ?_
    refine q_iload C 4 rfl dX7_isOpen_25 ?_
    refine q_iload C 5 rfl dX7_isOpen_27 ?_
    refine q_callVI (As := [.int (gI a2), .int (gI a3), .int (gI a4), .int (gI a5)]) (st := [.int (gI (524288 * a1)), .ref (rh a0 4)]) C vX7_119 kX7_key ⟨Nat.le_of_ble_eq_true rfl, Nat.le_of_ble_eq_true rfl⟩ ⟨Nat.le_of_ble_eq_true rfl, Nat.le_of_ble_eq_true rfl⟩ rfl hk0 ⟨_, _, rfl⟩ (by decide) rfl (Nat.le_of_ble_eq_true rfl) (mX7_key l D cy kd ln rh _ a0 a2 a3 a4 a5 M1 hk0 h) dX7_isOpen_29 (fun c8 M7 g9 h => ?_)
    have h := h g9
    refine q_iadd C dX7_isOpen_32 ?_
    obtain ⟨r10, h⟩ := h
    refine q_bald C hk0 rfl (fun _ q => q) r10 dX7_isOpen_33 (fun g11 => ?_)
    have h := h g11
    refine q_if_ne (tgt := 41) C g11 (by decide) dX7_isOpen_34 (fun b12 => ?_) (fun b12 => ?_)
    · have h := h.1 b12
      refine q_iconst C dX7_isOpen_41 ?_
      exact hret 0 M7 _ _ dX7_isOpen_42 (Or.inl rfl) h
    · have h := h.2 b12
      refine q_iconst C dX7_isOpen_37 ?_
      refine q_goto (tgt := 42) C (by decide) dX7_isOpen_38 ?_
      exact hret 1 M7 _ _ dX7_isOpen_42 (Or.inr rfl) h
set_option maxHeartbeats 4000000 in
set_option maxRecDepth 100000 in
theorem mX7_decide (l : Launch) (D : va_G) (cy : Nat → ClassId) (kd : gKd) (ln : gLn) (rh : gRh) (post : gM → Prop) (a0 : Int) (a1 : Int) (a2 : Int) (a3 : Int) (a4 : Int) (a5 : Int) (a6 : Int) (M : gM) (hk0 : kd a0 = 7) (h : wX7_decide kd ln post a0 a1 a2 a3 a4 a5 a6 M) : gMV l D cy yX7_decide cX7_decide 7 1 24 [.ref (gad a0), .int (gI a1), .int (gI a2), .int (gI a3), .int (gI a4), .int (gI a5), .int (gI a6)] kd ln rh M post := by
  refine gMV_of (own := RX7) (by decide) rfl (Nat.le_of_ble_eq_true rfl) ?_
  intro p e s m args below meth c A H0 Q C hret
  unfold wX7_decide at h
  refine q_aload_n C 0 rfl rfl dX7_decide_0 ?_
  obtain ⟨r1, h⟩ := h
  refine q_get (v := .ref (rh a0 4)) C fX7_21 hk0 (if_neg (Int.not_lt.mpr r1)) dX7_decide_1 (fun g2 => ?_)
  refine q_ldc (n := 524288) C nX7_118 (by decide) dX7_decide_4 ?_
  refine q_iload_n C 1 rfl rfl dX7_decide_6 ?_
  refine q_imul C dX7_decide_7 ?_
  refine q_aload_n C 0 rfl rfl dX7_decide_8 ?_
  refine q_iload_n C 2 rfl rfl dX7_decide_9 ?_
  refine q_iload_n C 3 rfl rfl dX7_decide_10 ?_
  refine q_iload C 4 rfl dX7_decide_11 ?_
  refine q_iload C 5 rfl dX7_decide_13 ?_
  refine q_callVI (As := [.int (gI a2), .int (gI a3), .int (gI a4), .int (gI a5)]) (st := [.int (gI (524288 * a1)), .ref (rh a0 4)]) C vX7_119 kX7_key ⟨Nat.le_of_ble_eq_true rfl, Nat.le_of_ble_eq_true rfl⟩ ⟨Nat.le_of_ble_eq_true rfl, Nat.le_of_ble_eq_true rfl⟩ rfl hk0 ⟨_, _, rfl⟩ (by decide) rfl (Nat.le_of_ble_eq_true rfl) (mX7_key l D cy kd ln rh _ a0 a2 a3 a4 a5 M hk0 h) dX7_decide_15 (fun c4 M3 g5 h => ?_)
  have h := h g5
  refine q_iadd C dX7_decide_18 ?_
  refine q_iload C 6 rfl dX7_decide_19 ?_
  refine q_iconst C dX7_decide_21 ?_
  refine q_iadd C dX7_decide_22 ?_
  refine q_i2b C dX7_decide_23 ?_
  obtain ⟨r6, h⟩ := h
  obtain ⟨r7, h⟩ := h
  refine q_bast C hk0 rfl (rng8 r7) r7 r6 dX7_decide_24 ?_
  refine q_aload_n C 0 rfl rfl dX7_decide_25 ?_
  refine q_iconst C dX7_decide_26 ?_
  refine q_put (x := 1) (ty := .boolean) C fX7_134 hk0 (fun _ _ _ q => by cases q; rfl) (congrArg (fun z => Value.int (gI z)) gu_s) rfl rfl (show rng 1 by decide) (fun j q => absurd (show (0 : Nat) = j + 3 from q) (by omega)) dX7_decide_27 ?_
  exact hret (gu (gu M3 a0 4 ((524288 * a1) + c4) (gi2b (a6 + 1))) a0 20 (-1) 1) _ _ dX7_decide_30 h
set_option maxHeartbeats 4000000 in
set_option maxRecDepth 100000 in
theorem mX7_backBlack (l : Launch) (D : va_G) (cy : Nat → ClassId) (kd : gKd) (ln : gLn) (rh : gRh) (post : gM → Prop) (a0 : Int) (a1 : Int) (a2 : Int) (a3 : Int) (a4 : Int) (a5 : Int) (M : gM) (hk0 : kd a0 = 7) (h : wX7_backBlack kd ln post a0 a1 a2 a3 a4 a5 M) : gMV l D cy yX7_backBlack cX7_backBlack 9 6 154 [.ref (gad a0), .int (gI a1), .int (gI a2), .int (gI a3), .int (gI a4), .int (gI a5)] kd ln rh M post := by
  refine gMV_of (own := RX7) (by decide) rfl (Nat.le_of_ble_eq_true rfl) ?_
  intro p e s m args below meth c A H0 Q C hret
  have t89 : ∀ (k3 : Int → gM → Prop), (∀ (x6 : Int), ∀ (M : gM), k3 x6 M → gW p l e (gRm 6 154) s m args below meth c D cy A H0 Q 9 kd ln rh 0 0 M 3 [(0, .ref (gad a0)), (1, .int (gI a1)), (2, .int (gI a2)), (3, .int (gI a3)), (4, .int (gI a4)), (5, .int (gI a5)), (6, .int (gI x6))] []) → ∀ (k12 : Int → Int → gM → Prop), (∀ (x6 : Int), ∀ (x7 : Int), ∀ (M : gM), k12 x6 x7 M → gW p l e (gRm 6 154) s m args below meth c D cy A H0 Q 9 kd ln rh 0 0 M 12 [(0, .ref (gad a0)), (1, .int (gI a1)), (2, .int (gI a2)), (3, .int (gI a3)), (4, .int (gI a4)), (5, .int (gI a5)), (6, .int (gI x6)), (7, .int (gI x7))] []) → ∀ (x6 : Int) (x7 : Int) (M : gM), wX7_backBlack_89 kd ln post a0 a1 a2 a3 a4 a5 k3 k12 x6 x7 M → gW p l e (gRm 6 154) s m args below meth c D cy A H0 Q 9 kd ln rh 0 0 M 89 [(0, .ref (gad a0)), (1, .int (gI a1)), (2, .int (gI a2)), (3, .int (gI a3)), (4, .int (gI a4)), (5, .int (gI a5)), (6, .int (gI x6)), (7, .int (gI x7))] [] := by
    intro k3 hk3_ k12 hk12_ x6 x7 M h
    unfold wX7_backBlack_89 at h
    refine q_iinc (lv' := [(7, .int (gI (x7 + 1))), (0, .ref (gad a0)), (1, .int (gI a1)), (2, .int (gI a2)), (3, .int (gI a3)), (4, .int (gI a4)), (5, .int (gI a5)), (6, .int (gI x6))]) C 7 rfl (by decide) rfl dX7_backBlack_89 ?_
    refine q_goto (tgt := 12) C (by decide) dX7_backBlack_92 ?_
    refine q_lv (lv' := [(0, .ref (gad a0)), (1, .int (gI a1)), (2, .int (gI a2)), (3, .int (gI a3)), (4, .int (gI a4)), (5, .int (gI a5)), (6, .int (gI x6)), (7, .int (gI (x7 + 1)))]) [1, 2, 3, 4, 5, 6, 7, 0] rfl ?_
    exact hk12_ x6 (x7 + 1) M h
  have t41 : ∀ (k3 : Int → gM → Prop), (∀ (x6 : Int), ∀ (M : gM), k3 x6 M → gW p l e (gRm 6 154) s m args below meth c D cy A H0 Q 9 kd ln rh 0 0 M 3 [(0, .ref (gad a0)), (1, .int (gI a1)), (2, .int (gI a2)), (3, .int (gI a3)), (4, .int (gI a4)), (5, .int (gI a5)), (6, .int (gI x6))] []) → ∀ (k12 : Int → Int → gM → Prop), (∀ (x6 : Int), ∀ (x7 : Int), ∀ (M : gM), k12 x6 x7 M → gW p l e (gRm 6 154) s m args below meth c D cy A H0 Q 9 kd ln rh 0 0 M 12 [(0, .ref (gad a0)), (1, .int (gI a1)), (2, .int (gI a2)), (3, .int (gI a3)), (4, .int (gI a4)), (5, .int (gI a5)), (6, .int (gI x6)), (7, .int (gI x7))] []) → ∀ (x6 : Int) (x7 : Int) (y0 : Int) (M : gM), wX7_backBlack_41 kd ln post a0 a1 a2 a3 a4 a5 k3 k12 x6 x7 y0 M → gW p l e (gRm 6 154) s m args below meth c D cy A H0 Q 9 kd ln rh 0 0 M 41 [(0, .ref (gad a0)), (1, .int (gI a1)), (2, .int (gI a2)), (3, .int (gI a3)), (4, .int (gI a4)), (5, .int (gI a5)), (6, .int (gI x6)), (7, .int (gI x7))] [.int (gI y0)] := by
    intro k3 hk3_ k12 hk12_ x6 x7 y0 M h
    unfold wX7_backBlack_41 at h
    refine q_istore (lv' := [(8, .int (gI y0)), (0, .ref (gad a0)), (1, .int (gI a1)), (2, .int (gI a2)), (3, .int (gI a3)), (4, .int (gI a4)), (5, .int (gI a5)), (6, .int (gI x6)), (7, .int (gI x7))]) C (by decide) rfl dX7_backBlack_41 ?_
    refine q_iload C 0 rfl dX7_backBlack_43 ?_
    refine q_iconst C dX7_backBlack_45 ?_
    obtain ⟨r8, h⟩ := h
    refine q_icmp_eq (tgt := 89) C r8 (show rng (-1) by decide) (by decide) dX7_backBlack_46 (fun b9 => ?_) (fun b9 => ?_)
    · have h := h.1 b9
      refine q_lv (lv' := [(0, .ref (gad a0)), (1, .int (gI a1)), (2, .int (gI a2)), (3, .int (gI a3)), (4, .int (gI a4)), (5, .int (gI a5)), (6, .int (gI x6)), (7, .int (gI x7))]) [1, 2, 3, 4, 5, 6, 7, 8] rfl ?_
      exact t89 k3 hk3_ k12 hk12_ x6 x7 M h
    · have h := h.2 b9
      refine q_aload_n C 1 rfl rfl dX7_backBlack_49 ?_
      refine q_iload_n C 2 rfl rfl dX7_backBlack_50 ?_
      refine q_iload_n C 3 rfl rfl dX7_backBlack_51 ?_
      refine q_iload C 0 rfl dX7_backBlack_52 ?_
      refine q_iload C 5 rfl dX7_backBlack_54 ?_
      refine q_iconst C dX7_backBlack_56 ?_
      refine q_callVI (As := [.int (gI a1), .int (gI a2), .int (gI y0), .int (gI a4), .int (gI 1)]) (st := []) C vX7_159 kX7_isOpen ⟨Nat.le_of_ble_eq_true rfl, Nat.le_of_ble_eq_true rfl⟩ ⟨Nat.le_of_ble_eq_true rfl, Nat.le_of_ble_eq_true rfl⟩ rfl hk0 ⟨_, _, rfl⟩ (by decide) rfl (Nat.le_of_ble_eq_true rfl) (mX7_isOpen l D cy kd ln rh _ a0 a1 a2 y0 a4 1 M hk0 h) dX7_backBlack_57 (fun c11 M10 g12 h => ?_)
      have h := h g12
      refine q_if_eq (tgt := 89) C g12 (by decide) dX7_backBlack_60 (fun b13 => ?_) (fun b13 => ?_)
      · have h := h.1 b13
        refine q_lv (lv' := [(0, .ref (gad a0)), (1, .int (gI a1)), (2, .int (gI a2)), (3, .int (gI a3)), (4, .int (gI a4)), (5, .int (gI a5)), (6, .int (gI x6)), (7, .int (gI x7))]) [1, 2, 3, 4, 5, 6, 7, 8] rfl ?_
        exact t89 k3 hk3_ k12 hk12_ x6 x7 M10 h
      · have h := h.2 b13
        refine q_aload_n C 1 rfl rfl dX7_backBlack_63 ?_
        refine q_iload_n C 2 rfl rfl dX7_backBlack_64 ?_
        refine q_iload_n C 3 rfl rfl dX7_backBlack_65 ?_
        refine q_iload C 0 rfl dX7_backBlack_66 ?_
        refine q_iload C 5 rfl dX7_backBlack_68 ?_
        refine q_callVI (As := [.int (gI a1), .int (gI a2), .int (gI y0), .int (gI a4)]) (st := []) C vX7_162 kX7_allDecided ⟨Nat.le_of_ble_eq_true rfl, Nat.le_of_ble_eq_true rfl⟩ ⟨Nat.le_of_ble_eq_true rfl, Nat.le_of_ble_eq_true rfl⟩ rfl hk0 ⟨_, _, rfl⟩ (by decide) rfl (Nat.le_of_ble_eq_true rfl) (mX7_allDecided l D cy kd ln rh _ a0 a1 a2 y0 a4 M10 hk0 h) dX7_backBlack_70 (fun c15 M14 g16 h => ?_)
        have h := h g16
        refine q_if_eq (tgt := 89) C g16 (by decide) dX7_backBlack_73 (fun b17 => ?_) (fun b17 => ?_)
        · have h := h.1 b17
          refine q_lv (lv' := [(0, .ref (gad a0)), (1, .int (gI a1)), (2, .int (gI a2)), (3, .int (gI a3)), (4, .int (gI a4)), (5, .int (gI a5)), (6, .int (gI x6)), (7, .int (gI x7))]) [1, 2, 3, 4, 5, 6, 7, 8] rfl ?_
          exact t89 k3 hk3_ k12 hk12_ x6 x7 M14 h
        · have h := h.2 b17
          refine q_aload_n C 1 rfl rfl dX7_backBlack_76 ?_
          refine q_iload_n C 2 rfl rfl dX7_backBlack_77 ?_
          refine q_iload_n C 3 rfl rfl dX7_backBlack_78 ?_
          refine q_iload C 0 rfl dX7_backBlack_79 ?_
          refine q_iload C 5 rfl dX7_backBlack_81 ?_
          refine q_iconst C dX7_backBlack_83 ?_
          refine q_iload C 6 rfl dX7_backBlack_84 ?_
          refine q_callVV (As := [.int (gI a1), .int (gI a2), .int (gI y0), .int (gI a4), .int (gI 1), .int (gI a5)]) (st := []) C vX7_142 kX7_decide ⟨Nat.le_of_ble_eq_true rfl, Nat.le_of_ble_eq_true rfl⟩ ⟨Nat.le_of_ble_eq_true rfl, Nat.le_of_ble_eq_true rfl⟩ rfl hk0 ⟨_, _, rfl⟩ (by decide) rfl (Nat.le_of_ble_eq_true rfl) (mX7_decide l D cy kd ln rh _ a0 a1 a2 y0 a4 1 a5 M14 hk0 h) dX7_backBlack_86 (fun M18 h => ?_)
          refine q_lv (lv' := [(0, .ref (gad a0)), (1, .int (gI a1)), (2, .int (gI a2)), (3, .int (gI a3)), (4, .int (gI a4)), (5, .int (gI a5)), (6, .int (gI x6)), (7, .int (gI x7))]) [1, 2, 3, 4, 5, 6, 7, 8] rfl ?_
          exact t89 k3 hk3_ k12 hk12_ x6 x7 M18 h
  have t32 : ∀ (k3 : Int → gM → Prop), (∀ (x6 : Int), ∀ (M : gM), k3 x6 M → gW p l e (gRm 6 154) s m args below meth c D cy A H0 Q 9 kd ln rh 0 0 M 3 [(0, .ref (gad a0)), (1, .int (gI a1)), (2, .int (gI a2)), (3, .int (gI a3)), (4, .int (gI a4)), (5, .int (gI a5)), (6, .int (gI x6))] []) → ∀ (k12 : Int → Int → gM → Prop), (∀ (x6 : Int), ∀ (x7 : Int), ∀ (M : gM), k12 x6 x7 M → gW p l e (gRm 6 154) s m args below meth c D cy A H0 Q 9 kd ln rh 0 0 M 12 [(0, .ref (gad a0)), (1, .int (gI a1)), (2, .int (gI a2)), (3, .int (gI a3)), (4, .int (gI a4)), (5, .int (gI a5)), (6, .int (gI x6)), (7, .int (gI x7))] []) → ∀ (x6 : Int) (x7 : Int) (M : gM), wX7_backBlack_32 kd ln post a0 a1 a2 a3 a4 a5 k3 k12 x6 x7 M → gW p l e (gRm 6 154) s m args below meth c D cy A H0 Q 9 kd ln rh 0 0 M 32 [(0, .ref (gad a0)), (1, .int (gI a1)), (2, .int (gI a2)), (3, .int (gI a3)), (4, .int (gI a4)), (5, .int (gI a5)), (6, .int (gI x6)), (7, .int (gI x7))] [] := by
    intro k3 hk3_ k12 hk12_ x6 x7 M h
    unfold wX7_backBlack_32 at h
    refine q_aload_n C 0 rfl rfl dX7_backBlack_32 ?_
    refine q_iload_n C 3 rfl rfl dX7_backBlack_33 ?_
    refine q_iload C 6 rfl dX7_backBlack_34 ?_
    refine q_iload C 7 rfl dX7_backBlack_36 ?_
    refine q_callVI (As := [.int (gI a3), .int (gI x6), .int (gI x7)]) (st := []) C vX7_92 kX7_off ⟨Nat.le_of_ble_eq_true rfl, Nat.le_of_ble_eq_true rfl⟩ ⟨Nat.le_of_ble_eq_true rfl, Nat.le_of_ble_eq_true rfl⟩ rfl hk0 ⟨_, _, rfl⟩ (by decide) rfl (Nat.le_of_ble_eq_true rfl) (mX7_off l D cy kd ln rh _ a0 a3 x6 x7 M hk0 h) dX7_backBlack_38 (fun c22 M21 g23 h => ?_)
    have h := h g23
    exact t41 k3 hk3_ k12 hk12_ x6 x7 c22 M21 h
  have t12 : ∀ (k3 : Int → gM → Prop), (∀ (x6 : Int), ∀ (M : gM), k3 x6 M → gW p l e (gRm 6 154) s m args below meth c D cy A H0 Q 9 kd ln rh 0 0 M 3 [(0, .ref (gad a0)), (1, .int (gI a1)), (2, .int (gI a2)), (3, .int (gI a3)), (4, .int (gI a4)), (5, .int (gI a5)), (6, .int (gI x6))] []) → ∀ (n : Nat) (x6 : Int) (x7 : Int) (M : gM), wX7_backBlack_12 kd ln post a0 a1 a2 a3 a4 a5 k3 n x6 x7 M → gW p l e (gRm 6 154) s m args below meth c D cy A H0 Q 9 kd ln rh 0 0 M 12 [(0, .ref (gad a0)), (1, .int (gI a1)), (2, .int (gI a2)), (3, .int (gI a3)), (4, .int (gI a4)), (5, .int (gI a5)), (6, .int (gI x6)), (7, .int (gI x7))] [] := by
    intro k3 hk3_
    intro n
    induction n with
    | zero => intro x6 x7 M h; exact absurd h (by simp [wX7_backBlack_12])
    | succ n ih =>
      intro x6 x7 M h
      have hk12_ := ih
      rw [wX7_backBlack_12] at h
      refine q_iload C 7 rfl dX7_backBlack_12 ?_
      refine q_iconst C dX7_backBlack_14 ?_
      obtain ⟨r3, h⟩ := h
      refine q_icmp_gt (tgt := 95) C r3 (show rng 1 by decide) (by decide) dX7_backBlack_15 (fun b4 => ?_) (fun b4 => ?_)
      · have h := h.1 b4
        refine q_iinc (lv' := [(6, .int (gI (x6 + 1))), (0, .ref (gad a0)), (1, .int (gI a1)), (2, .int (gI a2)), (3, .int (gI a3)), (4, .int (gI a4)), (5, .int (gI a5)), (7, .int (gI x7))]) C 6 rfl (by decide) rfl dX7_backBlack_95 ?_
        refine q_goto (tgt := 3) C (by decide) dX7_backBlack_98 ?_
        refine q_lv (lv' := [(0, .ref (gad a0)), (1, .int (gI a1)), (2, .int (gI a2)), (3, .int (gI a3)), (4, .int (gI a4)), (5, .int (gI a5)), (6, .int (gI (x6 + 1)))]) [1, 2, 3, 4, 5, 6, 0] rfl ?_
        exact hk3_ (x6 + 1) M h
      · have h := h.2 b4
        refine q_iload C 6 rfl dX7_backBlack_18 ?_
        obtain ⟨r5, h⟩ := h
        refine q_if_ne (tgt := 32) C r5 (by decide) dX7_backBlack_20 (fun b6 => ?_) (fun b6 => ?_)
        · have h := h.1 b6
          exact t32 k3 hk3_ (wX7_backBlack_12 kd ln post a0 a1 a2 a3 a4 a5 k3 n) hk12_ x6 x7 M h
        · have h := h.2 b6
          refine q_iload C 7 rfl dX7_backBlack_23 ?_
          refine q_if_ne (tgt := 32) C r3 (by decide) dX7_backBlack_25 (fun b7 => ?_) (fun b7 => ?_)
          · have h := h.1 b7
            exact t32 k3 hk3_ (wX7_backBlack_12 kd ln post a0 a1 a2 a3 a4 a5 k3 n) hk12_ x6 x7 M h
          · have h := h.2 b7
            refine q_iconst C dX7_backBlack_28 ?_
            refine q_goto (tgt := 41) C (by decide) dX7_backBlack_29 ?_
            exact t41 k3 hk3_ (wX7_backBlack_12 kd ln post a0 a1 a2 a3 a4 a5 k3 n) hk12_ x6 x7 (-1) M h
  have t3 : ∀ (n : Nat) (x6 : Int) (M : gM), wX7_backBlack_3 kd ln post a0 a1 a2 a3 a4 a5 n x6 M → gW p l e (gRm 6 154) s m args below meth c D cy A H0 Q 9 kd ln rh 0 0 M 3 [(0, .ref (gad a0)), (1, .int (gI a1)), (2, .int (gI a2)), (3, .int (gI a3)), (4, .int (gI a4)), (5, .int (gI a5)), (6, .int (gI x6))] [] := by
    intro n
    induction n with
    | zero => intro x6 M h; exact absurd h (by simp [wX7_backBlack_3])
    | succ n ih =>
      intro x6 M h
      have hk3_ := ih
      rw [wX7_backBlack_3] at h
      refine q_iload C 6 rfl dX7_backBlack_3 ?_
      refine q_iconst C dX7_backBlack_5 ?_
      obtain ⟨r1, h⟩ := h
      refine q_icmp_gt (tgt := 101) C r1 (show rng 1 by decide) (by decide) dX7_backBlack_6 (fun b2 => ?_) (fun b2 => ?_)
      · have h := h.1 b2
        exact hret M _ _ dX7_backBlack_101 h
      · have h := h.2 b2
        refine q_iconst C dX7_backBlack_9 ?_
        refine q_istore (lv' := [(7, .int (gI (-1))), (0, .ref (gad a0)), (1, .int (gI a1)), (2, .int (gI a2)), (3, .int (gI a3)), (4, .int (gI a4)), (5, .int (gI a5)), (6, .int (gI x6))]) C (by decide) rfl dX7_backBlack_10 ?_
        refine q_lv (lv' := [(0, .ref (gad a0)), (1, .int (gI a1)), (2, .int (gI a2)), (3, .int (gI a3)), (4, .int (gI a4)), (5, .int (gI a5)), (6, .int (gI x6)), (7, .int (gI (-1)))]) [1, 2, 3, 4, 5, 6, 7, 0] rfl ?_
        obtain ⟨j12, h⟩ := h
        exact t12 (wX7_backBlack_3 kd ln post a0 a1 a2 a3 a4 a5 n) hk3_ j12 x6 (-1) M h
  unfold wX7_backBlack at h
  refine q_iconst C dX7_backBlack_0 ?_
  refine q_istore (lv' := [(6, .int (gI (-1))), (0, .ref (gad a0)), (1, .int (gI a1)), (2, .int (gI a2)), (3, .int (gI a3)), (4, .int (gI a4)), (5, .int (gI a5))]) C (by decide) rfl dX7_backBlack_1 ?_
  refine q_lv (lv' := [(0, .ref (gad a0)), (1, .int (gI a1)), (2, .int (gI a2)), (3, .int (gI a3)), (4, .int (gI a4)), (5, .int (gI a5)), (6, .int (gI (-1)))]) [1, 2, 3, 4, 5, 6, 0] rfl ?_
  obtain ⟨j3, h⟩ := h
  exact t3  j3 (-1) M h
