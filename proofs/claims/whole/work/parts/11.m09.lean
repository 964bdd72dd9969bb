set_option maxHeartbeats 4000000 in
set_option maxRecDepth 100000 in
theorem mX7_position (l : Launch) (D : va_G) (cy : Nat → ClassId) (kd : gKd) (ln : gLn) (rh : gRh) (post : Int → gM → Prop) (a0 : Int) (a1 : Int) (a2 : Int) (a3 : Int) (M : gM) (hk0 : kd a0 = 7) (h : wX7_position kd ln post a0 a1 a2 a3 M) : gMI l D cy yX7_position cX7_position 8 .int 2 43 [.ref (gad a0), .int (gI a1), .int (gI a2), .int (gI a3)] kd ln rh M post := by
  refine gMI_of (own := RX7) (by decide) rfl (Nat.le_of_ble_eq_true rfl) ?_
  intro p e s m args below meth c A H0 Q C hret
  have t105 : ∀ (k57 : Int → Int → gM → Prop), (∀ (x4 : Int), ∀ (x5 : Int), ∀ (M : gM), k57 x4 x5 M → gW p l e (gRm 2 43) s m args below meth c D cy A H0 Q 8 kd ln rh 0 0 M 57 [(0, .ref (gad a0)), (1, .int (gI a1)), (2, .int (gI a2)), (3, .int (gI a3)), (4, .int (gI x4)), (5, .int (gI x5))] []) → ∀ (x4 : Int) (x5 : Int) (M : gM), wX7_position_105 kd ln post a0 a1 a2 a3 k57 x4 x5 M → gW p l e (gRm 2 43) s m args below meth c D cy A H0 Q 8 kd ln rh 0 0 M 105 [(0, .ref (gad a0)), (1, .int (gI a1)), (2, .int (gI a2)), (3, .int (gI a3)), (4, .int (gI x4)), (5, .int (gI x5))] [] := by
    intro k57 hk57_ x4 x5 M h
    unfold wX7_position_105 at h
    refine q_goto (tgt := 57) C (by decide) dX7_position_105 ?_
    exact hk57_ x4 x5 M h
  have t164 : ∀ (k132 : Int → Int → gM → Prop), (∀ (x6 : Int), ∀ (x7 : Int), ∀ (M : gM), k132 x6 x7 M → gW p l e (gRm 2 43) s m args below meth c D cy A H0 Q 8 kd ln rh 0 0 M 132 [(0, .ref (gad a0)), (1, .int (gI a1)), (3, .int (gI a3)), (6, .int (gI x6)), (7, .int (gI x7))] []) → ∀ (x7 : Int) (y0 : Int) (y1 : Int) (M : gM), wX7_position_164 kd ln post a0 a1 a2 a3 k132 x7 y0 y1 M → gW p l e (gRm 2 43) s m args below meth c D cy A H0 Q 8 kd ln rh 0 0 M 164 [(0, .ref (gad a0)), (1, .int (gI a1)), (3, .int (gI a3)), (7, .int (gI x7))] [.int (gI y0), .int (gI y1)] := by
    intro k132 hk132_ x7 y0 y1 M h
    unfold wX7_position_164 at h
    refine q_isub C dX7_position_164 ?_
    refine q_topi (fun v72 ev72 => ?_)
    have h := h v72 ev72
    refine q_istore (lv' := [(6, .int (gI v72)), (0, .ref (gad a0)), (1, .int (gI a1)), (3, .int (gI a3)), (7, .int (gI x7))]) C (by decide) rfl dX7_position_165 ?_
    refine q_iinc (lv' := [(7, .int (gI (x7 + 1))), (6, .int (gI v72)), (0, .ref (gad a0)), (1, .int (gI a1)), (3, .int (gI a3))]) C 4 rfl (by decide) rfl dX7_position_167 ?_
    refine q_goto (tgt := 132) C (by decide) dX7_position_170 ?_
    refine q_lv (lv' := [(0, .ref (gad a0)), (1, .int (gI a1)), (3, .int (gI a3)), (6, .int (gI v72)), (7, .int (gI (x7 + 1)))]) [2, 3, 4, 1, 0] rfl ?_
    exact hk132_ v72 (x7 + 1) M h
  have t147 : ∀ (k132 : Int → Int → gM → Prop), (∀ (x6 : Int), ∀ (x7 : Int), ∀ (M : gM), k132 x6 x7 M → gW p l e (gRm 2 43) s m args below meth c D cy A H0 Q 8 kd ln rh 0 0 M 132 [(0, .ref (gad a0)), (1, .int (gI a1)), (3, .int (gI a3)), (6, .int (gI x6)), (7, .int (gI x7))] []) → ∀ (x6 : Int) (x7 : Int) (M : gM), wX7_position_147 kd ln post a0 a1 a2 a3 k132 x6 x7 M → gW p l e (gRm 2 43) s m args below meth c D cy A H0 Q 8 kd ln rh 0 0 M 147 [(0, .ref (gad a0)), (1, .int (gI a1)), (3, .int (gI a3)), (6, .int (gI x6)), (7, .int (gI x7))] [] := by
    intro k132 hk132_ x6 x7 M h
    unfold wX7_position_147 at h
    refine q_iload C 3 rfl dX7_position_147 ?_
    refine q_aload_n C 0 rfl rfl dX7_position_149 ?_
    refine q_iload_n C 1 rfl rfl dX7_position_150 ?_
    refine q_iload C 4 rfl dX7_position_151 ?_
    refine q_callVI (As := [.int (gI a1), .int (gI x7)]) (st := [.int (gI x6)]) C vX7_176 kX7_isCanon ⟨Nat.le_of_ble_eq_true rfl, Nat.le_of_ble_eq_true rfl⟩ ⟨Nat.le_of_ble_eq_true rfl, Nat.le_of_ble_eq_true rfl⟩ rfl hk0 ⟨_, _, rfl⟩ (by decide) rfl (Nat.le_of_ble_eq_true rfl) (mX7_isCanon l D cy kd ln rh _ a0 a1 x7 M hk0 h) dX7_position_153 (fun c69 M68 g70 h => ?_)
    have h := h g70
    refine q_if_eq (tgt := 163) C g70 (by decide) dX7_position_156 (fun b71 => ?_) (fun b71 => ?_)
    · have h := h.1 b71
      refine q_iconst C dX7_position_163 ?_
      refine q_lv (lv' := [(0, .ref (gad a0)), (1, .int (gI a1)), (3, .int (gI a3)), (7, .int (gI x7))]) [0, 1, 2, 4] rfl ?_
      exact t164 k132 hk132_ x7 0 x6 M68 h
    · have h := h.2 b71
      refine q_iconst C dX7_position_159 ?_
      refine q_goto (tgt := 164) C (by decide) dX7_position_160 ?_
      refine q_lv (lv' := [(0, .ref (gad a0)), (1, .int (gI a1)), (3, .int (gI a3)), (7, .int (gI x7))]) [0, 1, 2, 4] rfl ?_
      exact t164 k132 hk132_ x7 1 x6 M68 h
  have t132 : ∀ (n : Nat) (x6 : Int) (x7 : Int) (M : gM), wX7_position_132 kd ln post a0 a1 a2 a3 n x6 x7 M → gW p l e (gRm 2 43) s m args below meth c D cy A H0 Q 8 kd ln rh 0 0 M 132 [(0, .ref (gad a0)), (1, .int (gI a1)), (3, .int (gI a3)), (6, .int (gI x6)), (7, .int (gI x7))] [] := by
    intro n
    induction n with
    | zero => intro x6 x7 M h; exact absurd h (by simp [wX7_position_132])
    | succ n ih =>
      intro x6 x7 M h
      have hk132_ := ih
      rw [wX7_position_132] at h
      refine q_iload C 3 rfl dX7_position_132 ?_
      obtain ⟨r38, h⟩ := h
      refine q_if_gt (tgt := 147) C r38 (by decide) dX7_position_134 (fun b39 => ?_) (fun b39 => ?_)
      · have h := h.1 b39
        exact t147 (wX7_position_132 kd ln post a0 a1 a2 a3 n) hk132_ x6 x7 M h
      · have h := h.2 b39
        refine q_aload_n C 0 rfl rfl dX7_position_137 ?_
        refine q_iload_n C 1 rfl rfl dX7_position_138 ?_
        refine q_iload C 4 rfl dX7_position_139 ?_
        refine q_callVI (As := [.int (gI a1), .int (gI x7)]) (st := []) C vX7_176 kX7_isCanon ⟨Nat.le_of_ble_eq_true rfl, Nat.le_of_ble_eq_true rfl⟩ ⟨Nat.le_of_ble_eq_true rfl, Nat.le_of_ble_eq_true rfl⟩ rfl hk0 ⟨_, _, rfl⟩ (by decide) rfl (Nat.le_of_ble_eq_true rfl) (mX7_isCanon l D cy kd ln rh _ a0 a1 x7 M hk0 h) dX7_position_141 (fun c41 M40 g42 h => ?_)
        have h := h g42
        refine q_if_ne (tgt := 173) C g42 (by decide) dX7_position_144 (fun b43 => ?_) (fun b43 => ?_)
        · have h := h.1 b43
          refine q_iload_n C 2 rfl rfl dX7_position_173 ?_
          obtain ⟨r44, h⟩ := h
          rcases (show (a3 < 0 ∨ 4 < a3) ∨ a3 = 0 ∨ a3 = 1 ∨ a3 = 2 ∨ a3 = 3 ∨ a3 = 4 by omega) with b45 | b45 | b45 | b45 | b45 | b45
          · have h := h.1 b45
            refine q_tswOut (tgt := 268) C r44 b45 (by decide) dX7_position_174 ?_
            refine q_iconst C dX7_position_268 ?_
            exact hret (-1) M40 _ _ dX7_position_269 (show rng (-1) by decide) h
          · have h := h.2.1 b45
            refine q_tswIn (tgt := 208) (off := 34) C r44 (by omega) (by omega) (by rw [b45]; rfl) (by decide) dX7_position_174 ?_
            refine q_iload C 4 rfl dX7_position_208 ?_
            refine q_iconst C dX7_position_210 ?_
            obtain ⟨r46, h⟩ := h
            refine q_idiv C ⟨r46.1, r46.2, by decide, by decide⟩ dX7_position_211 ?_
            refine q_aload_n C 0 rfl rfl dX7_position_212 ?_
            refine q_get (v := .int (gI (M40 a0 2 (-1)))) C fX7_13 hk0 rfl dX7_position_213 (fun g47 => ?_)
            have h := h g47
            obtain ⟨r48, h⟩ := h
            refine q_idiv C r48 dX7_position_216 ?_
            refine q_aload_n C 0 rfl rfl dX7_position_217 ?_
            refine q_get (v := .int (gI (M40 a0 2 (-1)))) C fX7_13 hk0 rfl dX7_position_218 (fun g49 => ?_)
            obtain ⟨r50, h⟩ := h
            refine q_idiv C r50 dX7_position_221 ?_
            obtain ⟨r51, h⟩ := h
            exact hret (((x7 / 2) / (M40 a0 2 (-1))) / (M40 a0 2 (-1))) M40 _ _ dX7_position_222 r51 h
          · have h := h.2.2.1 b45
            refine q_tswIn (tgt := 223) (off := 49) C r44 (by omega) (by omega) (by rw [b45]; rfl) (by decide) dX7_position_174 ?_
            refine q_iload C 4 rfl dX7_position_223 ?_
            refine q_iconst C dX7_position_225 ?_
            obtain ⟨r52, h⟩ := h
            refine q_idiv C ⟨r52.1, r52.2, by decide, by decide⟩ dX7_position_226 ?_
            refine q_aload_n C 0 rfl rfl dX7_position_227 ?_
            refine q_get (v := .int (gI (M40 a0 2 (-1)))) C fX7_13 hk0 rfl dX7_position_228 (fun g53 => ?_)
            have h := h g53
            obtain ⟨r54, h⟩ := h
            refine q_idiv C r54 dX7_position_231 ?_
            refine q_aload_n C 0 rfl rfl dX7_position_232 ?_
            refine q_get (v := .int (gI (M40 a0 2 (-1)))) C fX7_13 hk0 rfl dX7_position_233 (fun g55 => ?_)
            obtain ⟨r56, h⟩ := h
            refine q_irem C r56 dX7_position_236 ?_
            obtain ⟨r57, h⟩ := h
            exact hret (((x7 / 2) / (M40 a0 2 (-1))) % (M40 a0 2 (-1))) M40 _ _ dX7_position_237 r57 h
          · have h := h.2.2.2.1 b45
            refine q_tswIn (tgt := 238) (off := 64) C r44 (by omega) (by omega) (by rw [b45]; rfl) (by decide) dX7_position_174 ?_
            refine q_iload C 4 rfl dX7_position_238 ?_
            refine q_iconst C dX7_position_240 ?_
            obtain ⟨r58, h⟩ := h
            refine q_idiv C ⟨r58.1, r58.2, by decide, by decide⟩ dX7_position_241 ?_
            refine q_aload_n C 0 rfl rfl dX7_position_242 ?_
            refine q_get (v := .int (gI (M40 a0 2 (-1)))) C fX7_13 hk0 rfl dX7_position_243 (fun g59 => ?_)
            have h := h g59
            obtain ⟨r60, h⟩ := h
            refine q_irem C r60 dX7_position_246 ?_
            obtain ⟨r61, h⟩ := h
            exact hret ((x7 / 2) % (M40 a0 2 (-1))) M40 _ _ dX7_position_247 r61 h
          · have h := h.2.2.2.2.1 b45
            refine q_tswIn (tgt := 248) (off := 74) C r44 (by omega) (by omega) (by rw [b45]; rfl) (by decide) dX7_position_174 ?_
            refine q_iload C 4 rfl dX7_position_248 ?_
            refine q_iconst C dX7_position_250 ?_
            refine q_iand C dX7_position_251 ?_
            obtain ⟨r62, h⟩ := h
            exact hret (giand x7 1) M40 _ _ dX7_position_252 r62 h
          · have h := h.2.2.2.2.2 b45
            refine q_tswIn (tgt := 253) (off := 79) C r44 (by omega) (by omega) (by rw [b45]; rfl) (by decide) dX7_position_174 ?_
            refine q_aload_n C 0 rfl rfl dX7_position_253 ?_
            obtain ⟨r63, h⟩ := h
            refine q_get (v := .ref (rh a0 4)) C fX7_21 hk0 (if_neg (Int.not_lt.mpr r63)) dX7_position_254 (fun g64 => ?_)
            refine q_ldc (n := 524288) C nX7_118 (by decide) dX7_position_257 ?_
            refine q_iload_n C 1 rfl rfl dX7_position_259 ?_
            refine q_imul C dX7_position_260 ?_
            refine q_iload C 4 rfl dX7_position_261 ?_
            refine q_iadd C dX7_position_263 ?_
            obtain ⟨r65, h⟩ := h
            refine q_bald C hk0 rfl (fun _ q => q) r65 dX7_position_264 (fun g66 => ?_)
            have h := h g66
            refine q_iconst C dX7_position_265 ?_
            refine q_isub C dX7_position_266 ?_
            obtain ⟨r67, h⟩ := h
            exact hret ((M40 a0 4 ((524288 * a1) + x7)) - 1) M40 _ _ dX7_position_267 r67 h
        · have h := h.2 b43
          exact t147 (wX7_position_132 kd ln post a0 a1 a2 a3 n) hk132_ x6 x7 M40 h
  have t57 : ∀ (n : Nat) (x4 : Int) (x5 : Int) (M : gM), wX7_position_57 kd ln post a0 a1 a2 a3 n x4 x5 M → gW p l e (gRm 2 43) s m args below meth c D cy A H0 Q 8 kd ln rh 0 0 M 57 [(0, .ref (gad a0)), (1, .int (gI a1)), (2, .int (gI a2)), (3, .int (gI a3)), (4, .int (gI x4)), (5, .int (gI x5))] [] := by
    intro n
    induction n with
    | zero => intro x4 x5 M h; exact absurd h (by simp [wX7_position_57])
    | succ n ih =>
      intro x4 x5 M h
      have hk57_ := ih
      rw [wX7_position_57] at h
      refine q_iload C 4 rfl dX7_position_57 ?_
      refine q_iload C 5 rfl dX7_position_59 ?_
      obtain ⟨r20, h⟩ := h
      obtain ⟨r21, h⟩ := h
      refine q_icmp_ge (tgt := 108) C r20 r21 (by decide) dX7_position_61 (fun b22 => ?_) (fun b22 => ?_)
      · have h := h.1 b22
        refine q_iload_n C 2 rfl rfl dX7_position_108 ?_
        refine q_aload_n C 0 rfl rfl dX7_position_109 ?_
        obtain ⟨r23, h⟩ := h
        refine q_get (v := .ref (rh a0 6)) C fX7_30 hk0 (if_neg (Int.not_lt.mpr r23)) dX7_position_110 (fun g24 => ?_)
        refine q_sipush C (by decide) dX7_position_113 ?_
        refine q_iload_n C 1 rfl rfl dX7_position_116 ?_
        refine q_imul C dX7_position_117 ?_
        refine q_iload C 4 rfl dX7_position_118 ?_
        refine q_iadd C dX7_position_120 ?_
        obtain ⟨r25, h⟩ := h
        refine q_iald C hk0 rfl (fun _ q => q) r25 dX7_position_121 (fun g26 => ?_)
        have h := h g26
        refine q_isub C dX7_position_122 ?_
        refine q_topi (fun v27 ev27 => ?_)
        have h := h v27 ev27
        refine q_istore (lv' := [(6, .int (gI v27)), (0, .ref (gad a0)), (1, .int (gI a1)), (2, .int (gI a2)), (3, .int (gI a3)), (4, .int (gI x4)), (5, .int (gI x5))]) C (by decide) rfl dX7_position_123 ?_
        refine q_bipush C (by decide) dX7_position_125 ?_
        refine q_iload C 5 rfl dX7_position_127 ?_
        refine q_imul C dX7_position_129 ?_
        refine q_topi (fun v28 ev28 => ?_)
        have h := h v28 ev28
        refine q_istore (lv' := [(7, .int (gI v28)), (6, .int (gI v27)), (0, .ref (gad a0)), (1, .int (gI a1)), (2, .int (gI a2)), (3, .int (gI a3)), (4, .int (gI x4)), (5, .int (gI x5))]) C (by decide) rfl dX7_position_130 ?_
        refine q_lv (lv' := [(0, .ref (gad a0)), (1, .int (gI a1)), (3, .int (gI a3)), (6, .int (gI v27)), (7, .int (gI v28))]) [2, 3, 5, 1, 0] rfl ?_
        obtain ⟨j132, h⟩ := h
        exact t132  j132 v27 v28 M h
      · have h := h.2 b22
        refine q_iload C 4 rfl dX7_position_64 ?_
        refine q_iload C 5 rfl dX7_position_66 ?_
        refine q_iadd C dX7_position_68 ?_
        refine q_iconst C dX7_position_69 ?_
        refine q_iadd C dX7_position_70 ?_
        refine q_iconst C dX7_position_71 ?_
        obtain ⟨r29, h⟩ := h
        refine q_idiv C ⟨r29.1, r29.2, by decide, by decide⟩ dX7_position_72 ?_
        refine q_topi (fun v30 ev30 => ?_)
        have h := h v30 ev30
        refine q_istore (lv' := [(6, .int (gI v30)), (0, .ref (gad a0)), (1, .int (gI a1)), (2, .int (gI a2)), (3, .int (gI a3)), (4, .int (gI x4)), (5, .int (gI x5))]) C (by decide) rfl dX7_position_73 ?_
        refine q_aload_n C 1 rfl rfl dX7_position_75 ?_
        obtain ⟨r31, h⟩ := h
        refine q_get (v := .ref (rh a0 6)) C fX7_30 hk0 (if_neg (Int.not_lt.mpr r31)) dX7_position_76 (fun g32 => ?_)
        refine q_sipush C (by decide) dX7_position_79 ?_
        refine q_iload_n C 2 rfl rfl dX7_position_82 ?_
        refine q_imul C dX7_position_83 ?_
        refine q_iload C 0 rfl dX7_position_84 ?_
        refine q_iadd C dX7_position_86 ?_
        obtain ⟨r33, h⟩ := h
        refine q_iald C hk0 rfl (fun _ q => q) r33 dX7_position_87 (fun g34 => ?_)
        have h := h g34
        refine q_iload_n C 3 rfl rfl dX7_position_88 ?_
        obtain ⟨r35, h⟩ := h
        refine q_icmp_gt (tgt := 99) C g34 r35 (by decide) dX7_position_89 (fun b36 => ?_) (fun b36 => ?_)
        · have h := h.1 b36
          refine q_iload C 0 rfl dX7_position_99 ?_
          refine q_iconst C dX7_position_101 ?_
          refine q_isub C dX7_position_102 ?_
          refine q_topi (fun v37 ev37 => ?_)
          have h := h v37 ev37
          refine q_istore (lv' := [(5, .int (gI v37)), (6, .int (gI v30)), (0, .ref (gad a0)), (1, .int (gI a1)), (2, .int (gI a2)), (3, .int (gI a3)), (4, .int (gI x4))]) C (by decide) rfl dX7_position_103 ?_
          refine q_lv (lv' := [(0, .ref (gad a0)), (1, .int (gI a1)), (2, .int (gI a2)), (3, .int (gI a3)), (4, .int (gI x4)), (5, .int (gI v37))]) [2, 3, 4, 5, 6, 0] rfl ?_
          exact t105 (wX7_position_57 kd ln post a0 a1 a2 a3 n) hk57_ x4 v37 M h
        · have h := h.2 b36
          refine q_iload C 0 rfl dX7_position_92 ?_
          refine q_istore (lv' := [(4, .int (gI v30)), (6, .int (gI v30)), (0, .ref (gad a0)), (1, .int (gI a1)), (2, .int (gI a2)), (3, .int (gI a3)), (5, .int (gI x5))]) C (by decide) rfl dX7_position_94 ?_
          refine q_goto (tgt := 105) C (by decide) dX7_position_96 ?_
          refine q_lv (lv' := [(0, .ref (gad a0)), (1, .int (gI a1)), (2, .int (gI a2)), (3, .int (gI a3)), (4, .int (gI v30)), (5, .int (gI x5))]) [2, 3, 4, 5, 0, 6] rfl ?_
          exact t105 (wX7_position_57 kd ln post a0 a1 a2 a3 n) hk57_ v30 x5 M h
  unfold wX7_position at h
  refine q_aload_n C 0 rfl rfl dX7_position_0 ?_
  refine q_aload_n C 0 rfl rfl dX7_position_1 ?_
  refine q_iload_n C 1 rfl rfl dX7_position_2 ?_
  refine q_callVI (As := [.int (gI a1)]) (st := [.ref (gad a0)]) C vX7_179 kX7_isMade ⟨Nat.le_of_ble_eq_true rfl, Nat.le_of_ble_eq_true rfl⟩ ⟨Nat.le_of_ble_eq_true rfl, Nat.le_of_ble_eq_true rfl⟩ rfl hk0 ⟨_, _, rfl⟩ (by decide) rfl (Nat.le_of_ble_eq_true rfl) (mX7_isMade l D cy kd ln rh _ a0 a1 M hk0 h) dX7_position_3 (fun c2 M1 g3 h => ?_)
  have h := h g3
  refine q_callVI (As := [.int (gI c2)]) (st := []) C vX7_186 kX7_may ⟨Nat.le_of_ble_eq_true rfl, Nat.le_of_ble_eq_true rfl⟩ ⟨Nat.le_of_ble_eq_true rfl, Nat.le_of_ble_eq_true rfl⟩ rfl hk0 ⟨_, _, rfl⟩ (by decide) rfl (Nat.le_of_ble_eq_true rfl) (mX7_may l D cy kd ln rh _ a0 c2 M1 hk0 h) dX7_position_6 (fun c5 M4 g6 h => ?_)
  have h := h g6
  refine q_if_ne (tgt := 14) C g6 (by decide) dX7_position_9 (fun b7 => ?_) (fun b7 => ?_)
  · have h := h.1 b7
    refine q_iload_n C 2 rfl rfl dX7_position_14 ?_
    refine q_iconst C dX7_position_15 ?_
    refine q_aload_n C 0 rfl rfl dX7_position_16 ?_
    obtain ⟨r8, h⟩ := h
    refine q_get (v := .ref (rh a0 7)) C fX7_33 hk0 (if_neg (Int.not_lt.mpr r8)) dX7_position_17 (fun g9 => ?_)
    refine q_iload_n C 1 rfl rfl dX7_position_20 ?_
    obtain ⟨r10, h⟩ := h
    refine q_iald C hk0 rfl (fun _ q => q) r10 dX7_position_21 (fun g11 => ?_)
    have h := h g11
    refine q_iconst C dX7_position_22 ?_
    refine q_isub C dX7_position_23 ?_
    refine q_callSI (As := [.int (gI a2), .int (gI 0), .int (gI ((M4 a0 7 a1) - 1))]) (st := []) C vX7_84 kX7_in ⟨Nat.le_of_ble_eq_true rfl, Nat.le_of_ble_eq_true rfl⟩ ⟨Nat.le_of_ble_eq_true rfl, Nat.le_of_ble_eq_true rfl⟩ rfl rfl (Nat.le_of_ble_eq_true rfl) (mX7_in l D cy kd ln rh _ a2 0 ((M4 a0 7 a1) - 1) M4  h) dX7_position_24 (fun c13 M12 g14 h => ?_)
    have h := h g14
    refine q_if_ne (tgt := 32) C g14 (by decide) dX7_position_27 (fun b15 => ?_) (fun b15 => ?_)
    · have h := h.1 b15
      refine q_iconst C dX7_position_32 ?_
      refine q_istore (lv' := [(4, .int (gI 0)), (0, .ref (gad a0)), (1, .int (gI a1)), (2, .int (gI a2)), (3, .int (gI a3))]) C (by decide) rfl dX7_position_33 ?_
      refine q_iconst C dX7_position_35 ?_
      refine q_aload_n C 1 rfl rfl dX7_position_36 ?_
      refine q_get (v := .int (gI (M12 a0 2 (-1)))) C fX7_13 hk0 rfl dX7_position_37 (fun g16 => ?_)
      have h := h g16
      refine q_imul C dX7_position_40 ?_
      refine q_aload_n C 1 rfl rfl dX7_position_41 ?_
      refine q_get (v := .int (gI (M12 a0 2 (-1)))) C fX7_13 hk0 rfl dX7_position_42 (fun g17 => ?_)
      refine q_imul C dX7_position_45 ?_
      refine q_aload_n C 1 rfl rfl dX7_position_46 ?_
      refine q_get (v := .int (gI (M12 a0 2 (-1)))) C fX7_13 hk0 rfl dX7_position_47 (fun g18 => ?_)
      refine q_imul C dX7_position_50 ?_
      refine q_iconst C dX7_position_51 ?_
      refine q_isub C dX7_position_52 ?_
      refine q_iconst C dX7_position_53 ?_
      refine q_ishr C dX7_position_54 ?_
      refine q_topi (fun v19 ev19 => ?_)
      have h := h v19 ev19
      refine q_istore (lv' := [(5, .int (gI v19)), (4, .int (gI 0)), (0, .ref (gad a0)), (1, .int (gI a1)), (2, .int (gI a2)), (3, .int (gI a3))]) C (by decide) rfl dX7_position_55 ?_
      refine q_lv (lv' := [(0, .ref (gad a0)), (1, .int (gI a1)), (2, .int (gI a2)), (3, .int (gI a3)), (4, .int (gI 0)), (5, .int (gI v19))]) [2, 3, 4, 5, 1, 0] rfl ?_
      obtain ⟨j57, h⟩ := h
      exact t57  j57 0 v19 M12 h
    · have h := h.2 b15
      refine q_iconst C dX7_position_30 ?_
      exact hret (-1) M12 _ _ dX7_position_31 (show rng (-1) by decide) h
  · have h := h.2 b7
    refine q_iconst C dX7_position_12 ?_
    exact hret 0 M4 _ _ dX7_position_13 (show rng 0 by decide) h
set_option maxHeartbeats 4000000 in
set_option maxRecDepth 100000 in
theorem mX7_isSqueezed (l : Launch) (D : va_G) (cy : Nat → ClassId) (kd : gKd) (ln : gLn) (rh : gRh) (post : Int → gM → Prop) (a0 : Int) (a1 : Int) (a2 : Int) (M : gM) (hk0 : kd a0 = 7) (h : wX7_isSqueezed kd ln post a0 a1 a2 M) : gMI l D cy yX7_isSqueezed cX7_isSqueezed 9 .boolean 4 100 [.ref (gad a0), .int (gI a1), .int (gI a2)] kd ln rh M post := by
  refine gMI_ofZ (own := RX7) (by decide) rfl (Nat.le_of_ble_eq_true rfl) ?_
  intro p e s m args below meth c A H0 Q C hret
  have t125 : ∀ (M : gM), wX7_isSqueezed_125 kd ln post a0 a1 a2  M → gW p l e (gRm 4 100) s m args below meth c D cy A H0 Q 9 kd ln rh 0 0 M 125 [] [] := by
    intro   M h
    unfold wX7_isSqueezed_125 at h
    refine q_iconst C dX7_isSqueezed_125 ?_
    refine q_goto (tgt := 144) C (by decide) dX7_isSqueezed_126 ?_
    exact hret 0 M _ _ dX7_isSqueezed_144 (Or.inl rfl) h
  have t105 : ∀ (x3 : Int) (x7 : Int) (y0 : Int) (M : gM), wX7_isSqueezed_105 kd ln post a0 a1 a2 x3 x7 y0 M → gW p l e (gRm 4 100) s m args below meth c D cy A H0 Q 9 kd ln rh 0 0 M 105 [(3, .int (gI x3)), (7, .int (gI x7))] [.int (gI y0)] := by
    intro  x3 x7 y0 M h
    unfold wX7_isSqueezed_105 at h
    refine q_istore (lv' := [(8, .int (gI y0)), (3, .int (gI x3)), (7, .int (gI x7))]) C (by decide) rfl dX7_isSqueezed_105 ?_
    refine q_iload_n C 1 rfl rfl dX7_isSqueezed_107 ?_
    obtain ⟨r27, h⟩ := h
    refine q_if_ne (tgt := 129) C r27 (by decide) dX7_isSqueezed_108 (fun b28 => ?_) (fun b28 => ?_)
    · have h := h.1 b28
      refine q_iload C 2 rfl dX7_isSqueezed_129 ?_
      obtain ⟨r29, h⟩ := h
      refine q_if_eq (tgt := 143) C r29 (by decide) dX7_isSqueezed_131 (fun b30 => ?_) (fun b30 => ?_)
      · have h := h.1 b30
        refine q_iconst C dX7_isSqueezed_143 ?_
        exact hret 0 M _ _ dX7_isSqueezed_144 (Or.inl rfl) h
      · have h := h.2 b30
        refine q_iload C 0 rfl dX7_isSqueezed_134 ?_
        obtain ⟨r31, h⟩ := h
        refine q_if_ne (tgt := 143) C r31 (by decide) dX7_isSqueezed_136 (fun b32 => ?_) (fun b32 => ?_)
        · have h := h.1 b32
          refine q_iconst C dX7_isSqueezed_143 ?_
          exact hret 0 M _ _ dX7_isSqueezed_144 (Or.inl rfl) h
        · have h := h.2 b32
          refine q_iconst C dX7_isSqueezed_139 ?_
          refine q_goto (tgt := 144) C (by decide) dX7_isSqueezed_140 ?_
          exact hret 1 M _ _ dX7_isSqueezed_144 (Or.inr rfl) h
    · have h := h.2 b28
      refine q_iload C 2 rfl dX7_isSqueezed_111 ?_
      obtain ⟨r33, h⟩ := h
      refine q_if_ne (tgt := 125) C r33 (by decide) dX7_isSqueezed_113 (fun b34 => ?_) (fun b34 => ?_)
      · have h := h.1 b34
        refine q_lv (lv' := []) [] rfl ?_
        exact t125  M h
      · have h := h.2 b34
        refine q_iload C 0 rfl dX7_isSqueezed_116 ?_
        obtain ⟨r35, h⟩ := h
        refine q_if_eq (tgt := 125) C r35 (by decide) dX7_isSqueezed_118 (fun b36 => ?_) (fun b36 => ?_)
        · have h := h.1 b36
          refine q_lv (lv' := []) [] rfl ?_
          exact t125  M h
        · have h := h.2 b36
          refine q_iconst C dX7_isSqueezed_121 ?_
          refine q_goto (tgt := 144) C (by decide) dX7_isSqueezed_122 ?_
          exact hret 1 M _ _ dX7_isSqueezed_144 (Or.inr rfl) h
  have t82 : ∀ (x3 : Int) (y0 : Int) (M : gM), wX7_isSqueezed_82 kd ln post a0 a1 a2 x3 y0 M → gW p l e (gRm 4 100) s m args below meth c D cy A H0 Q 9 kd ln rh 0 0 M 82 [(0, .ref (gad a0)), (1, .int (gI a1)), (2, .int (gI a2)), (3, .int (gI x3))] [.int (gI y0)] := by
    intro  x3 y0 M h
    unfold wX7_isSqueezed_82 at h
    refine q_istore (lv' := [(7, .int (gI y0)), (0, .ref (gad a0)), (1, .int (gI a1)), (2, .int (gI a2)), (3, .int (gI x3))]) C (by decide) rfl dX7_isSqueezed_82 ?_
    refine q_aload_n C 1 rfl rfl dX7_isSqueezed_84 ?_
    obtain ⟨r22, h⟩ := h
    refine q_get (v := .ref (rh a0 4)) C fX7_21 hk0 (if_neg (Int.not_lt.mpr r22)) dX7_isSqueezed_85 (fun g23 => ?_)
    refine q_ldc (n := 524288) C nX7_118 (by decide) dX7_isSqueezed_88 ?_
    refine q_iload_n C 2 rfl rfl dX7_isSqueezed_90 ?_
    refine q_imul C dX7_isSqueezed_91 ?_
    refine q_iload_n C 3 rfl rfl dX7_isSqueezed_92 ?_
    refine q_iconst C dX7_isSqueezed_93 ?_
    refine q_ixor C dX7_isSqueezed_94 ?_
    refine q_iadd C dX7_isSqueezed_95 ?_
    obtain ⟨r24, h⟩ := h
    refine q_bald C hk0 rfl (fun _ q => q) r24 dX7_isSqueezed_96 (fun g25 => ?_)
    have h := h g25
    refine q_if_le (tgt := 104) C g25 (by decide) dX7_isSqueezed_97 (fun b26 => ?_) (fun b26 => ?_)
    · have h := h.1 b26
      refine q_iconst C dX7_isSqueezed_104 ?_
      refine q_lv (lv' := [(3, .int (gI x3)), (7, .int (gI y0))]) [4, 0] rfl ?_
      exact t105  x3 y0 0 M h
    · have h := h.2 b26
      refine q_iconst C dX7_isSqueezed_100 ?_
      refine q_goto (tgt := 105) C (by decide) dX7_isSqueezed_101 ?_
      refine q_lv (lv' := [(3, .int (gI x3)), (7, .int (gI y0))]) [4, 0] rfl ?_
      exact t105  x3 y0 1 M h
  unfold wX7_isSqueezed at h
  refine q_iload_n C 2 rfl rfl dX7_isSqueezed_0 ?_
  refine q_iconst C dX7_isSqueezed_1 ?_
  refine q_iand C dX7_isSqueezed_2 ?_
  refine q_topi (fun v1 ev1 => ?_)
  have h := h v1 ev1
  refine q_istore_n (lv' := [(3, .int (gI v1)), (0, .ref (gad a0)), (1, .int (gI a1)), (2, .int (gI a2))]) C rfl (by decide) rfl dX7_isSqueezed_3 ?_
  refine q_iload_n C 3 rfl rfl dX7_isSqueezed_4 ?_
  refine q_iconst C dX7_isSqueezed_5 ?_
  obtain ⟨r2, h⟩ := h
  refine q_idiv C ⟨r2.1, r2.2, by decide, by decide⟩ dX7_isSqueezed_6 ?_
  refine q_aload_n C 1 rfl rfl dX7_isSqueezed_7 ?_
  refine q_get (v := .int (gI (M a0 2 (-1)))) C fX7_13 hk0 rfl dX7_isSqueezed_8 (fun g3 => ?_)
  have h := h g3
  obtain ⟨r4, h⟩ := h
  refine q_idiv C r4 dX7_isSqueezed_11 ?_
  refine q_aload_n C 1 rfl rfl dX7_isSqueezed_12 ?_
  refine q_get (v := .int (gI (M a0 2 (-1)))) C fX7_13 hk0 rfl dX7_isSqueezed_13 (fun g5 => ?_)
  obtain ⟨r6, h⟩ := h
  refine q_idiv C r6 dX7_isSqueezed_16 ?_
  refine q_topi (fun v7 ev7 => ?_)
  have h := h v7 ev7
  refine q_istore (lv' := [(4, .int (gI v7)), (3, .int (gI v1)), (0, .ref (gad a0)), (1, .int (gI a1)), (2, .int (gI a2))]) C (by decide) rfl dX7_isSqueezed_17 ?_
  refine q_iload_n C 4 rfl rfl dX7_isSqueezed_19 ?_
  refine q_iconst C dX7_isSqueezed_20 ?_
  refine q_idiv C ⟨r2.1, r2.2, by decide, by decide⟩ dX7_isSqueezed_21 ?_
  refine q_aload_n C 2 rfl rfl dX7_isSqueezed_22 ?_
  refine q_get (v := .int (gI (M a0 2 (-1)))) C fX7_13 hk0 rfl dX7_isSqueezed_23 (fun g8 => ?_)
  refine q_idiv C r4 dX7_isSqueezed_26 ?_
  refine q_aload_n C 2 rfl rfl dX7_isSqueezed_27 ?_
  refine q_get (v := .int (gI (M a0 2 (-1)))) C fX7_13 hk0 rfl dX7_isSqueezed_28 (fun g9 => ?_)
  refine q_irem C r6 dX7_isSqueezed_31 ?_
  refine q_topi (fun v10 ev10 => ?_)
  have h := h v10 ev10
  refine q_istore (lv' := [(5, .int (gI v10)), (4, .int (gI v7)), (3, .int (gI v1)), (0, .ref (gad a0)), (1, .int (gI a1)), (2, .int (gI a2))]) C (by decide) rfl dX7_isSqueezed_32 ?_
  refine q_iload_n C 5 rfl rfl dX7_isSqueezed_34 ?_
  refine q_iconst C dX7_isSqueezed_35 ?_
  refine q_idiv C ⟨r2.1, r2.2, by decide, by decide⟩ dX7_isSqueezed_36 ?_
  refine q_aload_n C 3 rfl rfl dX7_isSqueezed_37 ?_
  refine q_get (v := .int (gI (M a0 2 (-1)))) C fX7_13 hk0 rfl dX7_isSqueezed_38 (fun g11 => ?_)
  refine q_irem C r4 dX7_isSqueezed_41 ?_
  refine q_topi (fun v12 ev12 => ?_)
  have h := h v12 ev12
  refine q_istore (lv' := [(6, .int (gI v12)), (5, .int (gI v10)), (4, .int (gI v7)), (3, .int (gI v1)), (0, .ref (gad a0)), (1, .int (gI a1)), (2, .int (gI a2))]) C (by decide) rfl dX7_isSqueezed_42 ?_
  refine q_aload_n C 4 rfl rfl dX7_isSqueezed_44 ?_
  refine q_iload_n C 5 rfl rfl dX7_isSqueezed_45 ?_
  refine q_iload C 2 rfl dX7_isSqueezed_46 ?_
  refine q_iload C 1 rfl dX7_isSqueezed_48 ?_
  refine q_iload C 0 rfl dX7_isSqueezed_50 ?_
  refine q_iconst C dX7_isSqueezed_52 ?_
  refine q_iload_n C 3 rfl rfl dX7_isSqueezed_53 ?_
  refine q_isub C dX7_isSqueezed_54 ?_
  refine q_callVI (As := [.int (gI a1), .int (gI v7), .int (gI v10), .int (gI v12), .int (gI (1 - v1))]) (st := []) C vX7_107 kX7_legal ⟨Nat.le_of_ble_eq_true rfl, Nat.le_of_ble_eq_true rfl⟩ ⟨Nat.le_of_ble_eq_true rfl, Nat.le_of_ble_eq_true rfl⟩ rfl hk0 ⟨_, _, rfl⟩ (by decide) rfl (Nat.le_of_ble_eq_true rfl) (mX7_legal l D cy kd ln rh _ a0 a1 v7 v10 v12 (1 - v1) M hk0 h) dX7_isSqueezed_55 (fun c14 M13 g15 h => ?_)
  have h := h g15
  refine q_if_ne (tgt := 63) C g15 (by decide) dX7_isSqueezed_58 (fun b16 => ?_) (fun b16 => ?_)
  · have h := h.1 b16
    refine q_aload_n C 4 rfl rfl dX7_isSqueezed_63 ?_
    obtain ⟨r17, h⟩ := h
    refine q_get (v := .ref (rh a0 4)) C fX7_21 hk0 (if_neg (Int.not_lt.mpr r17)) dX7_isSqueezed_64 (fun g18 => ?_)
    refine q_ldc (n := 524288) C nX7_118 (by decide) dX7_isSqueezed_67 ?_
    refine q_iload_n C 5 rfl rfl dX7_isSqueezed_69 ?_
    refine q_imul C dX7_isSqueezed_70 ?_
    refine q_iload_n C 6 rfl rfl dX7_isSqueezed_71 ?_
    refine q_iadd C dX7_isSqueezed_72 ?_
    obtain ⟨r19, h⟩ := h
    refine q_bald C hk0 rfl (fun _ q => q) r19 dX7_isSqueezed_73 (fun g20 => ?_)
    have h := h g20
    refine q_if_le (tgt := 81) C g20 (by decide) dX7_isSqueezed_74 (fun b21 => ?_) (fun b21 => ?_)
    · have h := h.1 b21
      refine q_iconst C dX7_isSqueezed_81 ?_
      refine q_lv (lv' := [(0, .ref (gad a0)), (1, .int (gI a1)), (2, .int (gI a2)), (3, .int (gI v1))]) [4, 5, 6, 3] rfl ?_
      exact t82  v1 0 M13 h
    · have h := h.2 b21
      refine q_iconst C dX7_isSqueezed_77 ?_
      refine q_goto (tgt := 82) C (by decide) dX7_isSqueezed_78 ?_
      refine q_lv (lv' := [(0, .ref (gad a0)), (1, .int (gI a1)), (2, .int (gI a2)), (3, .int (gI v1))]) [4, 5, 6, 3] rfl ?_
      exact t82  v1 1 M13 h
  · have h := h.2 b16
    refine q_iconst C dX7_isSqueezed_61 ?_
    exact hret 0 M13 _ _ dX7_isSqueezed_62 (Or.inl rfl) h
set_option maxHeartbeats 4000000 in
set_option maxRecDepth 100000 in
theorem mX7_count (l : Launch) (D : va_G) (cy : Nat → ClassId) (kd : gKd) (ln : gLn) (rh : gRh) (post : Int → gM → Prop) (a0 : Int) (a1 : Int) (a2 : Int) (a3 : Int) (M : gM) (hk0 : kd a0 = 7) (h : wX7_count kd ln post a0 a1 a2 a3 M) : gMI l D cy yX7_count cX7_count 8 .int 5 128 [.ref (gad a0), .int (gI a1), .int (gI a2), .int (gI a3)] kd ln rh M post := by
  refine gMI_of (own := RX7) (by decide) rfl (Nat.le_of_ble_eq_true rfl) ?_
  intro p e s m args below meth c A H0 Q C hret
  have t139 : ∀ (k55 : Int → Int → Int → gM → Prop), (∀ (x4 : Int), ∀ (x5 : Int), ∀ (x6 : Int), ∀ (M : gM), k55 x4 x5 x6 M → gW p l e (gRm 5 128) s m args below meth c D cy A H0 Q 8 kd ln rh 0 0 M 55 [(0, .ref (gad a0)), (1, .int (gI a1)), (3, .int (gI a3)), (4, .int (gI x4)), (5, .int (gI x5)), (6, .int (gI x6))] []) → ∀ (x4 : Int) (x5 : Int) (x6 : Int) (M : gM), wX7_count_139 kd ln post a0 a1 a2 a3 k55 x4 x5 x6 M → gW p l e (gRm 5 128) s m args below meth c D cy A H0 Q 8 kd ln rh 0 0 M 139 [(0, .ref (gad a0)), (1, .int (gI a1)), (3, .int (gI a3)), (4, .int (gI x4)), (5, .int (gI x5)), (6, .int (gI x6))] [] := by
    intro k55 hk55_ x4 x5 x6 M h
    unfold wX7_count_139 at h
    refine q_iinc (lv' := [(6, .int (gI (x6 + 2))), (0, .ref (gad a0)), (1, .int (gI a1)), (3, .int (gI a3)), (4, .int (gI x4)), (5, .int (gI x5))]) C 5 rfl (by decide) rfl dX7_count_139 ?_
    refine q_goto (tgt := 55) C (by decide) dX7_count_142 ?_
    refine q_lv (lv' := [(0, .ref (gad a0)), (1, .int (gI a1)), (3, .int (gI a3)), (4, .int (gI x4)), (5, .int (gI x5)), (6, .int (gI (x6 + 2)))]) [1, 2, 3, 4, 5, 0] rfl ?_
    exact hk55_ x4 x5 (x6 + 2) M h
  have t136 : ∀ (k55 : Int → Int → Int → gM → Prop), (∀ (x4 : Int), ∀ (x5 : Int), ∀ (x6 : Int), ∀ (M : gM), k55 x4 x5 x6 M → gW p l e (gRm 5 128) s m args below meth c D cy A H0 Q 8 kd ln rh 0 0 M 55 [(0, .ref (gad a0)), (1, .int (gI a1)), (3, .int (gI a3)), (4, .int (gI x4)), (5, .int (gI x5)), (6, .int (gI x6))] []) → ∀ (x4 : Int) (x6 : Int) (y0 : Int) (y1 : Int) (M : gM), wX7_count_136 kd ln post a0 a1 a2 a3 k55 x4 x6 y0 y1 M → gW p l e (gRm 5 128) s m args below meth c D cy A H0 Q 8 kd ln rh 0 0 M 136 [(0, .ref (gad a0)), (1, .int (gI a1)), (3, .int (gI a3)), (4, .int (gI x4)), (6, .int (gI x6))] [.int (gI y0), .int (gI y1)] := by
    intro k55 hk55_ x4 x6 y0 y1 M h
    unfold wX7_count_136 at h
    refine q_iadd C dX7_count_136 ?_
    refine q_topi (fun v42 ev42 => ?_)
    have h := h v42 ev42
    refine q_istore (lv' := [(5, .int (gI v42)), (0, .ref (gad a0)), (1, .int (gI a1)), (3, .int (gI a3)), (4, .int (gI x4)), (6, .int (gI x6))]) C (by decide) rfl dX7_count_137 ?_
    refine q_lv (lv' := [(0, .ref (gad a0)), (1, .int (gI a1)), (3, .int (gI a3)), (4, .int (gI x4)), (5, .int (gI v42)), (6, .int (gI x6))]) [1, 2, 3, 4, 0, 5] rfl ?_
    exact t139 k55 hk55_ x4 v42 x6 M h
  have t122 : ∀ (k55 : Int → Int → Int → gM → Prop), (∀ (x4 : Int), ∀ (x5 : Int), ∀ (x6 : Int), ∀ (M : gM), k55 x4 x5 x6 M → gW p l e (gRm 5 128) s m args below meth c D cy A H0 Q 8 kd ln rh 0 0 M 55 [(0, .ref (gad a0)), (1, .int (gI a1)), (3, .int (gI a3)), (4, .int (gI x4)), (5, .int (gI x5)), (6, .int (gI x6))] []) → ∀ (x4 : Int) (x5 : Int) (x6 : Int) (y0 : Int) (M : gM), wX7_count_122 kd ln post a0 a1 a2 a3 k55 x4 x5 x6 y0 M → gW p l e (gRm 5 128) s m args below meth c D cy A H0 Q 8 kd ln rh 0 0 M 122 [(0, .ref (gad a0)), (1, .int (gI a1)), (3, .int (gI a3)), (4, .int (gI x4)), (5, .int (gI x5)), (6, .int (gI x6))] [.int (gI y0)] := by
    intro k55 hk55_ x4 x5 x6 y0 M h
    unfold wX7_count_122 at h
    refine q_istore (lv' := [(7, .int (gI y0)), (0, .ref (gad a0)), (1, .int (gI a1)), (3, .int (gI a3)), (4, .int (gI x4)), (5, .int (gI x5)), (6, .int (gI x6))]) C (by decide) rfl dX7_count_122 ?_
    refine q_iload C 5 rfl dX7_count_124 ?_
    refine q_iload C 0 rfl dX7_count_126 ?_
    obtain ⟨r40, h⟩ := h
    refine q_if_eq (tgt := 135) C r40 (by decide) dX7_count_128 (fun b41 => ?_) (fun b41 => ?_)
    · have h := h.1 b41
      refine q_iconst C dX7_count_135 ?_
      refine q_lv (lv' := [(0, .ref (gad a0)), (1, .int (gI a1)), (3, .int (gI a3)), (4, .int (gI x4)), (6, .int (gI x6))]) [1, 2, 3, 4, 6] rfl ?_
      exact t136 k55 hk55_ x4 x6 0 x5 M h
    · have h := h.2 b41
      refine q_iconst C dX7_count_131 ?_
      refine q_goto (tgt := 136) C (by decide) dX7_count_132 ?_
      refine q_lv (lv' := [(0, .ref (gad a0)), (1, .int (gI a1)), (3, .int (gI a3)), (4, .int (gI x4)), (6, .int (gI x6))]) [1, 2, 3, 4, 6] rfl ?_
      exact t136 k55 hk55_ x4 x6 1 x5 M h
  have t117 : ∀ (k55 : Int → Int → Int → gM → Prop), (∀ (x4 : Int), ∀ (x5 : Int), ∀ (x6 : Int), ∀ (M : gM), k55 x4 x5 x6 M → gW p l e (gRm 5 128) s m args below meth c D cy A H0 Q 8 kd ln rh 0 0 M 55 [(0, .ref (gad a0)), (1, .int (gI a1)), (3, .int (gI a3)), (4, .int (gI x4)), (5, .int (gI x5)), (6, .int (gI x6))] []) → ∀ (x4 : Int) (x5 : Int) (x6 : Int) (M : gM), wX7_count_117 kd ln post a0 a1 a2 a3 k55 x4 x5 x6 M → gW p l e (gRm 5 128) s m args below meth c D cy A H0 Q 8 kd ln rh 0 0 M 117 [(0, .ref (gad a0)), (1, .int (gI a1)), (3, .int (gI a3)), (4, .int (gI x4)), (5, .int (gI x5)), (6, .int (gI x6))] [] := by
    intro k55 hk55_ x4 x5 x6 M h
    unfold wX7_count_117 at h
    refine q_iconst C dX7_count_117 ?_
    refine q_goto (tgt := 122) C (by decide) dX7_count_118 ?_
    exact t122 k55 hk55_ x4 x5 x6 1 M h
  have t121 : ∀ (k55 : Int → Int → Int → gM → Prop), (∀ (x4 : Int), ∀ (x5 : Int), ∀ (x6 : Int), ∀ (M : gM), k55 x4 x5 x6 M → gW p l e (gRm 5 128) s m args below meth c D cy A H0 Q 8 kd ln rh 0 0 M 55 [(0, .ref (gad a0)), (1, .int (gI a1)), (3, .int (gI a3)), (4, .int (gI x4)), (5, .int (gI x5)), (6, .int (gI x6))] []) → ∀ (x4 : Int) (x5 : Int) (x6 : Int) (M : gM), wX7_count_121 kd ln post a0 a1 a2 a3 k55 x4 x5 x6 M → gW p l e (gRm 5 128) s m args below meth c D cy A H0 Q 8 kd ln rh 0 0 M 121 [(0, .ref (gad a0)), (1, .int (gI a1)), (3, .int (gI a3)), (4, .int (gI x4)), (5, .int (gI x5)), (6, .int (gI x6))] [] := by
    intro k55 hk55_ x4 x5 x6 M h
    unfold wX7_count_121 at h
    refine q_iconst C dX7_count_121 ?_
    exact t122 k55 hk55_ x4 x5 x6 0 M h
  have t94 : ∀ (k55 : Int → Int → Int → gM → Prop), (∀ (x4 : Int), ∀ (x5 : Int), ∀ (x6 : Int), ∀ (M : gM), k55 x4 x5 x6 M → gW p l e (gRm 5 128) s m args below meth c D cy A H0 Q 8 kd ln rh 0 0 M 55 [(0, .ref (gad a0)), (1, .int (gI a1)), (3, .int (gI a3)), (4, .int (gI x4)), (5, .int (gI x5)), (6, .int (gI x6))] []) → ∀ (x4 : Int) (x5 : Int) (x6 : Int) (M : gM), wX7_count_94 kd ln post a0 a1 a2 a3 k55 x4 x5 x6 M → gW p l e (gRm 5 128) s m args below meth c D cy A H0 Q 8 kd ln rh 0 0 M 94 [(0, .ref (gad a0)), (1, .int (gI a1)), (3, .int (gI a3)), (4, .int (gI x4)), (5, .int (gI x5)), (6, .int (gI x6))] [] := by
    intro k55 hk55_ x4 x5 x6 M h
    unfold wX7_count_94 at h
    refine q_iload_n C 2 rfl rfl dX7_count_94 ?_
    refine q_iconst C dX7_count_95 ?_
    obtain ⟨r32, h⟩ := h
    refine q_icmp_lt (tgt := 121) C r32 (show rng (-1) by decide) (by decide) dX7_count_96 (fun b33 => ?_) (fun b33 => ?_)
    · have h := h.1 b33
      exact t121 k55 hk55_ x4 x5 x6 M h
    · have h := h.2 b33
      refine q_aload_n C 0 rfl rfl dX7_count_99 ?_
      obtain ⟨r34, h⟩ := h
      refine q_get (v := .ref (rh a0 4)) C fX7_21 hk0 (if_neg (Int.not_lt.mpr r34)) dX7_count_100 (fun g35 => ?_)
      refine q_ldc (n := 524288) C nX7_118 (by decide) dX7_count_103 ?_
      refine q_iload_n C 1 rfl rfl dX7_count_105 ?_
      refine q_imul C dX7_count_106 ?_
      refine q_iload C 5 rfl dX7_count_107 ?_
      refine q_iadd C dX7_count_109 ?_
      obtain ⟨r36, h⟩ := h
      refine q_bald C hk0 rfl (fun _ q => q) r36 dX7_count_110 (fun g37 => ?_)
      have h := h g37
      refine q_iconst C dX7_count_111 ?_
      refine q_isub C dX7_count_112 ?_
      refine q_iload_n C 2 rfl rfl dX7_count_113 ?_
      obtain ⟨r38, h⟩ := h
      refine q_icmp_ne (tgt := 121) C r38 r32 (by decide) dX7_count_114 (fun b39 => ?_) (fun b39 => ?_)
      · have h := h.1 b39
        exact t121 k55 hk55_ x4 x5 x6 M h
      · have h := h.2 b39
        exact t117 k55 hk55_ x4 x5 x6 M h
  have t55 : ∀ (n : Nat) (x4 : Int) (x5 : Int) (x6 : Int) (M : gM), wX7_count_55 kd ln post a0 a1 a2 a3 n x4 x5 x6 M → gW p l e (gRm 5 128) s m args below meth c D cy A H0 Q 8 kd ln rh 0 0 M 55 [(0, .ref (gad a0)), (1, .int (gI a1)), (3, .int (gI a3)), (4, .int (gI x4)), (5, .int (gI x5)), (6, .int (gI x6))] [] := by
    intro n
    induction n with
    | zero => intro x4 x5 x6 M h; exact absurd h (by simp [wX7_count_55])
    | succ n ih =>
      intro x4 x5 x6 M h
      have hk55_ := ih
      rw [wX7_count_55] at h
      refine q_iload C 5 rfl dX7_count_55 ?_
      refine q_iload C 3 rfl dX7_count_57 ?_
      obtain ⟨r17, h⟩ := h
      obtain ⟨r18, h⟩ := h
      refine q_icmp_ge (tgt := 145) C r17 r18 (by decide) dX7_count_59 (fun b19 => ?_) (fun b19 => ?_)
      · have h := h.1 b19
        refine q_iload C 4 rfl dX7_count_145 ?_
        obtain ⟨r20, h⟩ := h
        exact hret x5 M _ _ dX7_count_147 r20 h
      · have h := h.2 b19
        refine q_aload_n C 0 rfl rfl dX7_count_62 ?_
        refine q_iload_n C 1 rfl rfl dX7_count_63 ?_
        refine q_iload C 5 rfl dX7_count_64 ?_
        refine q_callVI (As := [.int (gI a1), .int (gI x6)]) (st := []) C vX7_176 kX7_isCanon ⟨Nat.le_of_ble_eq_true rfl, Nat.le_of_ble_eq_true rfl⟩ ⟨Nat.le_of_ble_eq_true rfl, Nat.le_of_ble_eq_true rfl⟩ rfl hk0 ⟨_, _, rfl⟩ (by decide) rfl (Nat.le_of_ble_eq_true rfl) (mX7_isCanon l D cy kd ln rh _ a0 a1 x6 M hk0 h) dX7_count_66 (fun c22 M21 g23 h => ?_)
        have h := h g23
        refine q_if_eq (tgt := 139) C g23 (by decide) dX7_count_69 (fun b24 => ?_) (fun b24 => ?_)
        · have h := h.1 b24
          exact t139 (wX7_count_55 kd ln post a0 a1 a2 a3 n) hk55_ x4 x5 x6 M21 h
        · have h := h.2 b24
          refine q_iload_n C 2 rfl rfl dX7_count_72 ?_
          refine q_bipush C (by decide) dX7_count_73 ?_
          obtain ⟨r25, h⟩ := h
          refine q_icmp_eq (tgt := 117) C r25 (show rng (-2) by decide) (by decide) dX7_count_75 (fun b26 => ?_) (fun b26 => ?_)
          · have h := h.1 b26
            exact t117 (wX7_count_55 kd ln post a0 a1 a2 a3 n) hk55_ x4 x5 x6 M21 h
          · have h := h.2 b26
            refine q_iload_n C 2 rfl rfl dX7_count_78 ?_
            refine q_bipush C (by decide) dX7_count_79 ?_
            refine q_icmp_ne (tgt := 94) C r25 (show rng (-3) by decide) (by decide) dX7_count_81 (fun b27 => ?_) (fun b27 => ?_)
            · have h := h.1 b27
              exact t94 (wX7_count_55 kd ln post a0 a1 a2 a3 n) hk55_ x4 x5 x6 M21 h
            · have h := h.2 b27
              refine q_aload_n C 0 rfl rfl dX7_count_84 ?_
              refine q_iload_n C 1 rfl rfl dX7_count_85 ?_
              refine q_iload C 5 rfl dX7_count_86 ?_
              refine q_callVI (As := [.int (gI a1), .int (gI x6)]) (st := []) C vX7_205 kX7_isSqueezed ⟨Nat.le_of_ble_eq_true rfl, Nat.le_of_ble_eq_true rfl⟩ ⟨Nat.le_of_ble_eq_true rfl, Nat.le_of_ble_eq_true rfl⟩ rfl hk0 ⟨_, _, rfl⟩ (by decide) rfl (Nat.le_of_ble_eq_true rfl) (mX7_isSqueezed l D cy kd ln rh _ a0 a1 x6 M21 hk0 h) dX7_count_88 (fun c29 M28 g30 h => ?_)
              have h := h g30
              refine q_if_ne (tgt := 117) C g30 (by decide) dX7_count_91 (fun b31 => ?_) (fun b31 => ?_)
              · have h := h.1 b31
                exact t117 (wX7_count_55 kd ln post a0 a1 a2 a3 n) hk55_ x4 x5 x6 M28 h
              · have h := h.2 b31
                exact t94 (wX7_count_55 kd ln post a0 a1 a2 a3 n) hk55_ x4 x5 x6 M28 h
  have t23 : ∀ (y0 : Int) (M : gM), wX7_count_23 kd ln post a0 a1 a2 a3 y0 M → gW p l e (gRm 5 128) s m args below meth c D cy A H0 Q 8 kd ln rh 0 0 M 23 [(0, .ref (gad a0)), (1, .int (gI a1)), (2, .int (gI a2)), (3, .int (gI a3))] [.int (gI y0), .ref (gad a0)] := by
    intro  y0 M h
    unfold wX7_count_23 at h
    refine q_callVI (As := [.int (gI y0)]) (st := []) C vX7_186 kX7_may ⟨Nat.le_of_ble_eq_true rfl, Nat.le_of_ble_eq_true rfl⟩ ⟨Nat.le_of_ble_eq_true rfl, Nat.le_of_ble_eq_true rfl⟩ rfl hk0 ⟨_, _, rfl⟩ (by decide) rfl (Nat.le_of_ble_eq_true rfl) (mX7_may l D cy kd ln rh _ a0 y0 M hk0 h) dX7_count_23 (fun c10 M9 g11 h => ?_)
    have h := h g11
    refine q_if_ne (tgt := 31) C g11 (by decide) dX7_count_26 (fun b12 => ?_) (fun b12 => ?_)
    · have h := h.1 b12
      refine q_iconst C dX7_count_31 ?_
      refine q_aload_n C 0 rfl rfl dX7_count_32 ?_
      refine q_get (v := .int (gI (M9 a0 2 (-1)))) C fX7_13 hk0 rfl dX7_count_33 (fun g13 => ?_)
      have h := h g13
      refine q_imul C dX7_count_36 ?_
      refine q_aload_n C 0 rfl rfl dX7_count_37 ?_
      refine q_get (v := .int (gI (M9 a0 2 (-1)))) C fX7_13 hk0 rfl dX7_count_38 (fun g14 => ?_)
      refine q_imul C dX7_count_41 ?_
      refine q_aload_n C 0 rfl rfl dX7_count_42 ?_
      refine q_get (v := .int (gI (M9 a0 2 (-1)))) C fX7_13 hk0 rfl dX7_count_43 (fun g15 => ?_)
      refine q_imul C dX7_count_46 ?_
      refine q_topi (fun v16 ev16 => ?_)
      have h := h v16 ev16
      refine q_istore (lv' := [(4, .int (gI v16)), (0, .ref (gad a0)), (1, .int (gI a1)), (2, .int (gI a2)), (3, .int (gI a3))]) C (by decide) rfl dX7_count_47 ?_
      refine q_iconst C dX7_count_49 ?_
      refine q_istore (lv' := [(5, .int (gI 0)), (4, .int (gI v16)), (0, .ref (gad a0)), (1, .int (gI a1)), (2, .int (gI a2)), (3, .int (gI a3))]) C (by decide) rfl dX7_count_50 ?_
      refine q_iload_n C 4 rfl rfl dX7_count_52 ?_
      refine q_istore (lv' := [(6, .int (gI a2)), (5, .int (gI 0)), (4, .int (gI v16)), (0, .ref (gad a0)), (1, .int (gI a1)), (2, .int (gI a2)), (3, .int (gI a3))]) C (by decide) rfl dX7_count_53 ?_
      refine q_lv (lv' := [(0, .ref (gad a0)), (1, .int (gI a1)), (3, .int (gI a3)), (4, .int (gI v16)), (5, .int (gI 0)), (6, .int (gI a2))]) [3, 4, 6, 2, 1, 0] rfl ?_
      obtain ⟨j55, h⟩ := h
      exact t55  j55 v16 0 a2 M9 h
    · have h := h.2 b12
      refine q_iconst C dX7_count_29 ?_
      exact hret 0 M9 _ _ dX7_count_30 (show rng 0 by decide) h
  have t22 : ∀ (M : gM), wX7_count_22 kd ln post a0 a1 a2 a3  M → gW p l e (gRm 5 128) s m args below meth c D cy A H0 Q 8 kd ln rh 0 0 M 22 [(0, .ref (gad a0)), (1, .int (gI a1)), (2, .int (gI a2)), (3, .int (gI a3))] [.ref (gad a0)] := by
    intro   M h
    unfold wX7_count_22 at h
    refine q_iconst C dX7_count_22 ?_
    exact t23  0 M h
  unfold wX7_count at h
  refine q_aload_n C 0 rfl rfl dX7_count_0 ?_
  refine q_aload_n C 0 rfl rfl dX7_count_1 ?_
  refine q_iload_n C 1 rfl rfl dX7_count_2 ?_
  refine q_callVI (As := [.int (gI a1)]) (st := [.ref (gad a0)]) C vX7_179 kX7_isMade ⟨Nat.le_of_ble_eq_true rfl, Nat.le_of_ble_eq_true rfl⟩ ⟨Nat.le_of_ble_eq_true rfl, Nat.le_of_ble_eq_true rfl⟩ rfl hk0 ⟨_, _, rfl⟩ (by decide) rfl (Nat.le_of_ble_eq_true rfl) (mX7_isMade l D cy kd ln rh _ a0 a1 M hk0 h) dX7_count_3 (fun c2 M1 g3 h => ?_)
  have h := h g3
  refine q_if_eq (tgt := 22) C g3 (by decide) dX7_count_6 (fun b4 => ?_) (fun b4 => ?_)
  · have h := h.1 b4
    exact t22  M1 h
  · have h := h.2 b4
    refine q_iload_n C 2 rfl rfl dX7_count_9 ?_
    refine q_iconst C dX7_count_10 ?_
    refine q_iconst C dX7_count_11 ?_
    refine q_callSI (As := [.int (gI a2), .int (gI 0), .int (gI 1)]) (st := [.ref (gad a0)]) C vX7_84 kX7_in ⟨Nat.le_of_ble_eq_true rfl, Nat.le_of_ble_eq_true rfl⟩ ⟨Nat.le_of_ble_eq_true rfl, Nat.le_of_ble_eq_true rfl⟩ rfl rfl (Nat.le_of_ble_eq_true rfl) (mX7_in l D cy kd ln rh _ a2 0 1 M1  h) dX7_count_12 (fun c6 M5 g7 h => ?_)
    have h := h g7
    refine q_if_eq (tgt := 22) C g7 (by decide) dX7_count_15 (fun b8 => ?_) (fun b8 => ?_)
    · have h := h.1 b8
      exact t22  M5 h
    · have h := h.2 b8
      refine q_iconst C dX7_count_18 ?_
      refine q_goto (tgt := 23) C (by decide) dX7_count_19 ?_
      exact t23  1 M5 h
set_option maxHeartbeats 4000000 in
set_option maxRecDepth 100000 in
theorem mX6_longest (l : Launch) (D : va_G) (cy : Nat → ClassId) (kd : gKd) (ln : gLn) (rh : gRh) (post : Int → gM → Prop) (px : gM → Prop) (a0 : Int) (a1 : Int) (a2 : Int) (a3 : Int) (M : gM) (hst : l.stackTraces = false) (hk0 : kd a0 = 6) (h : wX6_longest kd ln post px a0 a1 a2 a3 M) : gTI l D cy yX6_longest cX6_longest 5 .int 8 140 [.ref (gad a0), .int (gI a1), .int (gI a2), .int (gI a3)] kd ln rh M post px := by
  refine gTI_of (own := RX6) (by decide) rfl (Nat.le_of_ble_eq_true rfl) hst rfl ?_
  intro p e s m args below meth c A H0 Q C hret hthr hexc
  unfold wX6_longest at h
  refine q_aload_n C 0 rfl rfl dX6_longest_0 ?_
  refine q_iload_n C 1 rfl rfl dX6_longest_1 ?_
  refine q_iload_n C 2 rfl rfl dX6_longest_2 ?_
  refine q_callTR (As := [.int (gI a1), .int (gI a2)]) (st := []) C vX6_145 kX6_demandTurn ⟨Nat.le_of_ble_eq_true rfl, Nat.le_of_ble_eq_true rfl⟩ ⟨Nat.le_of_ble_eq_true rfl, Nat.le_of_ble_eq_true rfl⟩ rfl hk0 ⟨_, _, rfl⟩ (by decide) rfl (Nat.le_of_ble_eq_true rfl) (mX6_demandTurn l D cy kd ln rh _ _ a0 a1 a2 M hst hk0 h) dX6_longest_3 (fun M9 h => hexc M9 _ _ _ _ _ (by decide) (by decide) h) (fun c2 M1 h => ?_)
  refine q_astore (lv' := [(4, .ref (gad c2)), (0, .ref (gad a0)), (1, .int (gI a1)), (2, .int (gI a2)), (3, .int (gI a3))]) C (by decide) rfl dX6_longest_6 ?_
  refine q_iload_n C 4 rfl rfl dX6_longest_8 ?_
  obtain ⟨r4, h⟩ := h
  refine q_if_ne (tgt := 20) C r4 (by decide) dX6_longest_9 (fun b5 => ?_) (fun b5 => ?_)
  · have h := h.1 b5
    refine q_iload_n C 4 rfl rfl dX6_longest_20 ?_
    refine q_iconst C dX6_longest_21 ?_
    refine q_icmp_ne (tgt := 35) C r4 (show rng 1 by decide) (by decide) dX6_longest_22 (fun b6 => ?_) (fun b6 => ?_)
    · have h := h.1 b6
      refine q_iconst C dX6_longest_35 ?_
      exact hret (-1) M1 _ _ 1 6 (by decide) (by decide) dX6_longest_36 (show rng (-1) by decide) h
    · have h := h.2 b6
      refine q_aload C 0 rfl dX6_longest_25 ?_
      obtain ⟨r7, h⟩ := h
      obtain ⟨r8, h⟩ := h
      refine q_get (v := .ref (rh c2 6)) C fX6_164 r7 (if_neg (Int.not_lt.mpr r8)) dX6_longest_27 (fun g9 => ?_)
      refine q_iload_n C 3 rfl rfl dX6_longest_30 ?_
      obtain ⟨r10, h⟩ := h
      refine q_iald C r7 rfl (fun _ q => q) r10 dX6_longest_31 (fun g11 => ?_)
      have h := h g11
      refine q_goto (tgt := 36) C (by decide) dX6_longest_32 ?_
      exact hret (M1 c2 6 a2) M1 _ _ 1 6 (by decide) (by decide) dX6_longest_36 g11 h
  · have h := h.2 b5
    refine q_aload C 0 rfl dX6_longest_12 ?_
    obtain ⟨r12, h⟩ := h
    obtain ⟨r13, h⟩ := h
    refine q_get (v := .ref (rh c2 5)) C fX6_161 r12 (if_neg (Int.not_lt.mpr r13)) dX6_longest_14 (fun g14 => ?_)
    refine q_iload_n C 3 rfl rfl dX6_longest_17 ?_
    obtain ⟨r15, h⟩ := h
    refine q_iald C r12 rfl (fun _ q => q) r15 dX6_longest_18 (fun g16 => ?_)
    have h := h g16
    exact hret (M1 c2 5 a2) M1 _ _ 1 6 (by decide) (by decide) dX6_longest_19 g16 h
set_option maxHeartbeats 4000000 in
set_option maxRecDepth 100000 in
theorem mX7_longest (l : Launch) (D : va_G) (cy : Nat → ClassId) (kd : gKd) (ln : gLn) (rh : gRh) (post : Int → gM → Prop) (a0 : Int) (a1 : Int) (a2 : Int) (a3 : Int) (M : gM) (hk0 : kd a0 = 7) (h : wX7_longest kd ln post a0 a1 a2 a3 M) : gMI l D cy yX7_longest cX7_longest 8 .int 2 46 [.ref (gad a0), .int (gI a1), .int (gI a2), .int (gI a3)] kd ln rh M post := by
  refine gMI_of (own := RX7) (by decide) rfl (Nat.le_of_ble_eq_true rfl) ?_
  intro p e s m args below meth c A H0 Q C hret
  have t114 : ∀ (k58 : Int → Int → Int → Int → gM → Prop), (∀ (x4 : Int), ∀ (x5 : Int), ∀ (x6 : Int), ∀ (x7 : Int), ∀ (M : gM), k58 x4 x5 x6 x7 M → gW p l e (gRm 2 46) s m args below meth c D cy A H0 Q 8 kd ln rh 0 0 M 58 [(0, .ref (gad a0)), (1, .int (gI a1)), (3, .int (gI a3)), (4, .int (gI x4)), (5, .int (gI x5)), (6, .int (gI x6)), (7, .int (gI x7))] []) → ∀ (x4 : Int) (x5 : Int) (x6 : Int) (x7 : Int) (M : gM), wX7_longest_114 kd ln post a0 a1 a2 a3 k58 x4 x5 x6 x7 M → gW p l e (gRm 2 46) s m args below meth c D cy A H0 Q 8 kd ln rh 0 0 M 114 [(0, .ref (gad a0)), (1, .int (gI a1)), (3, .int (gI a3)), (4, .int (gI x4)), (5, .int (gI x5)), (6, .int (gI x6)), (7, .int (gI x7))] [] := by
    intro k58 hk58_ x4 x5 x6 x7 M h
    unfold wX7_longest_114 at h
    refine q_iinc (lv' := [(7, .int (gI (x7 + 2))), (0, .ref (gad a0)), (1, .int (gI a1)), (3, .int (gI a3)), (4, .int (gI x4)), (5, .int (gI x5)), (6, .int (gI x6))]) C 6 rfl (by decide) rfl dX7_longest_114 ?_
    refine q_goto (tgt := 58) C (by decide) dX7_longest_117 ?_
    refine q_lv (lv' := [(0, .ref (gad a0)), (1, .int (gI a1)), (3, .int (gI a3)), (4, .int (gI x4)), (5, .int (gI x5)), (6, .int (gI x6)), (7, .int (gI (x7 + 2)))]) [1, 2, 3, 4, 5, 6, 0] rfl ?_
    exact hk58_ x4 x5 x6 (x7 + 2) M h
  have t58 : ∀ (n : Nat) (x4 : Int) (x5 : Int) (x6 : Int) (x7 : Int) (M : gM), wX7_longest_58 kd ln post a0 a1 a2 a3 n x4 x5 x6 x7 M → gW p l e (gRm 2 46) s m args below meth c D cy A H0 Q 8 kd ln rh 0 0 M 58 [(0, .ref (gad a0)), (1, .int (gI a1)), (3, .int (gI a3)), (4, .int (gI x4)), (5, .int (gI x5)), (6, .int (gI x6)), (7, .int (gI x7))] [] := by
    intro n
    induction n with
    | zero => intro x4 x5 x6 x7 M h; exact absurd h (by simp [wX7_longest_58])
    | succ n ih =>
      intro x4 x5 x6 x7 M h
      have hk58_ := ih
      rw [wX7_longest_58] at h
      refine q_iload C 6 rfl dX7_longest_58 ?_
      refine q_iload C 3 rfl dX7_longest_60 ?_
      obtain ⟨r17, h⟩ := h
      obtain ⟨r18, h⟩ := h
      refine q_icmp_ge (tgt := 120) C r17 r18 (by decide) dX7_longest_62 (fun b19 => ?_) (fun b19 => ?_)
      · have h := h.1 b19
        refine q_iload_n C 2 rfl rfl dX7_longest_120 ?_
        obtain ⟨r20, h⟩ := h
        refine q_if_ne (tgt := 129) C r20 (by decide) dX7_longest_121 (fun b21 => ?_) (fun b21 => ?_)
        · have h := h.1 b21
          refine q_iload_n C 2 rfl rfl dX7_longest_129 ?_
          refine q_iconst C dX7_longest_130 ?_
          refine q_icmp_ne (tgt := 150) C r20 (show rng 1 by decide) (by decide) dX7_longest_131 (fun b22 => ?_) (fun b22 => ?_)
          · have h := h.1 b22
            refine q_iconst C dX7_longest_150 ?_
            exact hret (-1) M _ _ dX7_longest_151 (show rng (-1) by decide) h
          · have h := h.2 b22
            refine q_iload C 5 rfl dX7_longest_134 ?_
            refine q_iconst C dX7_longest_136 ?_
            obtain ⟨r23, h⟩ := h
            refine q_icmp_eq (tgt := 150) C r23 (show rng (-1) by decide) (by decide) dX7_longest_137 (fun b24 => ?_) (fun b24 => ?_)
            · have h := h.1 b24
              refine q_iconst C dX7_longest_150 ?_
              exact hret (-1) M _ _ dX7_longest_151 (show rng (-1) by decide) h
            · have h := h.2 b24
              refine q_aload_n C 0 rfl rfl dX7_longest_140 ?_
              refine q_iload_n C 1 rfl rfl dX7_longest_141 ?_
              refine q_iload C 5 rfl dX7_longest_142 ?_
              refine q_callVI (As := [.int (gI a1), .int (gI x6)]) (st := []) C vX7_202 kX7_numberOf ⟨Nat.le_of_ble_eq_true rfl, Nat.le_of_ble_eq_true rfl⟩ ⟨Nat.le_of_ble_eq_true rfl, Nat.le_of_ble_eq_true rfl⟩ rfl hk0 ⟨_, _, rfl⟩ (by decide) rfl (Nat.le_of_ble_eq_true rfl) (mX7_numberOf l D cy kd ln rh _ a0 a1 x6 M hk0 h) dX7_longest_144 (fun c26 M25 g27 h => ?_)
              have h := h g27
              refine q_goto (tgt := 151) C (by decide) dX7_longest_147 ?_
              exact hret c26 M25 _ _ dX7_longest_151 g27 h
        · have h := h.2 b21
          refine q_iload C 4 rfl dX7_longest_124 ?_
          refine q_goto (tgt := 151) C (by decide) dX7_longest_126 ?_
          obtain ⟨r28, h⟩ := h
          exact hret x5 M _ _ dX7_longest_151 r28 h
      · have h := h.2 b19
        refine q_aload_n C 0 rfl rfl dX7_longest_65 ?_
        refine q_iload_n C 1 rfl rfl dX7_longest_66 ?_
        refine q_iload C 6 rfl dX7_longest_67 ?_
        refine q_callVI (As := [.int (gI a1), .int (gI x7)]) (st := []) C vX7_176 kX7_isCanon ⟨Nat.le_of_ble_eq_true rfl, Nat.le_of_ble_eq_true rfl⟩ ⟨Nat.le_of_ble_eq_true rfl, Nat.le_of_ble_eq_true rfl⟩ rfl hk0 ⟨_, _, rfl⟩ (by decide) rfl (Nat.le_of_ble_eq_true rfl) (mX7_isCanon l D cy kd ln rh _ a0 a1 x7 M hk0 h) dX7_longest_69 (fun c30 M29 g31 h => ?_)
        have h := h g31
        refine q_if_eq (tgt := 114) C g31 (by decide) dX7_longest_72 (fun b32 => ?_) (fun b32 => ?_)
        · have h := h.1 b32
          exact t114 (wX7_longest_58 kd ln post a0 a1 a2 a3 n) hk58_ x4 x5 x6 x7 M29 h
        · have h := h.2 b32
          refine q_aload_n C 0 rfl rfl dX7_longest_75 ?_
          obtain ⟨r33, h⟩ := h
          refine q_get (v := .ref (rh a0 4)) C fX7_21 hk0 (if_neg (Int.not_lt.mpr r33)) dX7_longest_76 (fun g34 => ?_)
          refine q_ldc (n := 524288) C nX7_118 (by decide) dX7_longest_79 ?_
          refine q_iload_n C 1 rfl rfl dX7_longest_81 ?_
          refine q_imul C dX7_longest_82 ?_
          refine q_iload C 6 rfl dX7_longest_83 ?_
          refine q_iadd C dX7_longest_85 ?_
          obtain ⟨r35, h⟩ := h
          refine q_bald C hk0 rfl (fun _ q => q) r35 dX7_longest_86 (fun g36 => ?_)
          have h := h g36
          refine q_iconst C dX7_longest_87 ?_
          refine q_isub C dX7_longest_88 ?_
          refine q_iload C 4 rfl dX7_longest_89 ?_
          obtain ⟨r37, h⟩ := h
          obtain ⟨r38, h⟩ := h
          refine q_icmp_le (tgt := 114) C r37 r38 (by decide) dX7_longest_91 (fun b39 => ?_) (fun b39 => ?_)
          · have h := h.1 b39
            exact t114 (wX7_longest_58 kd ln post a0 a1 a2 a3 n) hk58_ x4 x5 x6 x7 M29 h
          · have h := h.2 b39
            refine q_aload_n C 0 rfl rfl dX7_longest_94 ?_
            refine q_get (v := .ref (rh a0 4)) C fX7_21 hk0 (if_neg (Int.not_lt.mpr r33)) dX7_longest_95 (fun g40 => ?_)
            refine q_ldc (n := 524288) C nX7_118 (by decide) dX7_longest_98 ?_
            refine q_iload_n C 1 rfl rfl dX7_longest_100 ?_
            refine q_imul C dX7_longest_101 ?_
            refine q_iload C 6 rfl dX7_longest_102 ?_
            refine q_iadd C dX7_longest_104 ?_
            refine q_bald C hk0 rfl (fun _ q => q) r35 dX7_longest_105 (fun g41 => ?_)
            refine q_iconst C dX7_longest_106 ?_
            refine q_isub C dX7_longest_107 ?_
            refine q_topi (fun v42 ev42 => ?_)
            have h := h v42 ev42
            have gv42 : rng v42 := by rw [ev42]; exact r37
            refine q_istore (lv' := [(5, .int (gI v42)), (0, .ref (gad a0)), (1, .int (gI a1)), (3, .int (gI a3)), (4, .int (gI x4)), (6, .int (gI x6)), (7, .int (gI x7))]) C (by decide) rfl dX7_longest_108 ?_
            refine q_iload C 6 rfl dX7_longest_110 ?_
            refine q_istore (lv' := [(6, .int (gI x7)), (5, .int (gI v42)), (0, .ref (gad a0)), (1, .int (gI a1)), (3, .int (gI a3)), (4, .int (gI x4)), (7, .int (gI x7))]) C (by decide) rfl dX7_longest_112 ?_
            refine q_lv (lv' := [(0, .ref (gad a0)), (1, .int (gI a1)), (3, .int (gI a3)), (4, .int (gI x4)), (5, .int (gI v42)), (6, .int (gI x7)), (7, .int (gI x7))]) [2, 3, 4, 5, 1, 0, 6] rfl ?_
            exact t114 (wX7_longest_58 kd ln post a0 a1 a2 a3 n) hk58_ x4 v42 x7 x7 M29 h
  have t23 : ∀ (y0 : Int) (M : gM), wX7_longest_23 kd ln post a0 a1 a2 a3 y0 M → gW p l e (gRm 2 46) s m args below meth c D cy A H0 Q 8 kd ln rh 0 0 M 23 [(0, .ref (gad a0)), (1, .int (gI a1)), (2, .int (gI a2)), (3, .int (gI a3))] [.int (gI y0), .ref (gad a0)] := by
    intro  y0 M h
    unfold wX7_longest_23 at h
    refine q_callVI (As := [.int (gI y0)]) (st := []) C vX7_186 kX7_may ⟨Nat.le_of_ble_eq_true rfl, Nat.le_of_ble_eq_true rfl⟩ ⟨Nat.le_of_ble_eq_true rfl, Nat.le_of_ble_eq_true rfl⟩ rfl hk0 ⟨_, _, rfl⟩ (by decide) rfl (Nat.le_of_ble_eq_true rfl) (mX7_may l D cy kd ln rh _ a0 y0 M hk0 h) dX7_longest_23 (fun c10 M9 g11 h => ?_)
    have h := h g11
    refine q_if_ne (tgt := 31) C g11 (by decide) dX7_longest_26 (fun b12 => ?_) (fun b12 => ?_)
    · have h := h.1 b12
      refine q_iconst C dX7_longest_31 ?_
      refine q_aload_n C 0 rfl rfl dX7_longest_32 ?_
      refine q_get (v := .int (gI (M9 a0 2 (-1)))) C fX7_13 hk0 rfl dX7_longest_33 (fun g13 => ?_)
      have h := h g13
      refine q_imul C dX7_longest_36 ?_
      refine q_aload_n C 0 rfl rfl dX7_longest_37 ?_
      refine q_get (v := .int (gI (M9 a0 2 (-1)))) C fX7_13 hk0 rfl dX7_longest_38 (fun g14 => ?_)
      refine q_imul C dX7_longest_41 ?_
      refine q_aload_n C 0 rfl rfl dX7_longest_42 ?_
      refine q_get (v := .int (gI (M9 a0 2 (-1)))) C fX7_13 hk0 rfl dX7_longest_43 (fun g15 => ?_)
      refine q_imul C dX7_longest_46 ?_
      refine q_topi (fun v16 ev16 => ?_)
      have h := h v16 ev16
      refine q_istore (lv' := [(4, .int (gI v16)), (0, .ref (gad a0)), (1, .int (gI a1)), (2, .int (gI a2)), (3, .int (gI a3))]) C (by decide) rfl dX7_longest_47 ?_
      refine q_iconst C dX7_longest_49 ?_
      refine q_istore (lv' := [(5, .int (gI (-1))), (4, .int (gI v16)), (0, .ref (gad a0)), (1, .int (gI a1)), (2, .int (gI a2)), (3, .int (gI a3))]) C (by decide) rfl dX7_longest_50 ?_
      refine q_iconst C dX7_longest_52 ?_
      refine q_istore (lv' := [(6, .int (gI (-1))), (5, .int (gI (-1))), (4, .int (gI v16)), (0, .ref (gad a0)), (1, .int (gI a1)), (2, .int (gI a2)), (3, .int (gI a3))]) C (by decide) rfl dX7_longest_53 ?_
      refine q_iload_n C 5 rfl rfl dX7_longest_55 ?_
      refine q_istore (lv' := [(7, .int (gI a2)), (6, .int (gI (-1))), (5, .int (gI (-1))), (4, .int (gI v16)), (0, .ref (gad a0)), (1, .int (gI a1)), (2, .int (gI a2)), (3, .int (gI a3))]) C (by decide) rfl dX7_longest_56 ?_
      refine q_lv (lv' := [(0, .ref (gad a0)), (1, .int (gI a1)), (3, .int (gI a3)), (4, .int (gI v16)), (5, .int (gI (-1))), (6, .int (gI (-1))), (7, .int (gI a2))]) [4, 5, 7, 3, 2, 1, 0] rfl ?_
      obtain ⟨j58, h⟩ := h
      exact t58  j58 v16 (-1) (-1) a2 M9 h
    · have h := h.2 b12
      refine q_iconst C dX7_longest_29 ?_
      exact hret 0 M9 _ _ dX7_longest_30 (show rng 0 by decide) h
  have t22 : ∀ (M : gM), wX7_longest_22 kd ln post a0 a1 a2 a3  M → gW p l e (gRm 2 46) s m args below meth c D cy A H0 Q 8 kd ln rh 0 0 M 22 [(0, .ref (gad a0)), (1, .int (gI a1)), (2, .int (gI a2)), (3, .int (gI a3))] [.ref (gad a0)] := by
    intro   M h
    unfold wX7_longest_22 at h
    refine q_iconst C dX7_longest_22 ?_
    exact t23  0 M h
  unfold wX7_longest at h
  refine q_aload_n C 0 rfl rfl dX7_longest_0 ?_
  refine q_aload_n C 0 rfl rfl dX7_longest_1 ?_
  refine q_iload_n C 1 rfl rfl dX7_longest_2 ?_
  refine q_callVI (As := [.int (gI a1)]) (st := [.ref (gad a0)]) C vX7_179 kX7_isMade ⟨Nat.le_of_ble_eq_true rfl, Nat.le_of_ble_eq_true rfl⟩ ⟨Nat.le_of_ble_eq_true rfl, Nat.le_of_ble_eq_true rfl⟩ rfl hk0 ⟨_, _, rfl⟩ (by decide) rfl (Nat.le_of_ble_eq_true rfl) (mX7_isMade l D cy kd ln rh _ a0 a1 M hk0 h) dX7_longest_3 (fun c2 M1 g3 h => ?_)
  have h := h g3
  refine q_if_eq (tgt := 22) C g3 (by decide) dX7_longest_6 (fun b4 => ?_) (fun b4 => ?_)
  · have h := h.1 b4
    exact t22  M1 h
  · have h := h.2 b4
    refine q_iload_n C 2 rfl rfl dX7_longest_9 ?_
    refine q_iconst C dX7_longest_10 ?_
    refine q_iconst C dX7_longest_11 ?_
    refine q_callSI (As := [.int (gI a2), .int (gI 0), .int (gI 1)]) (st := [.ref (gad a0)]) C vX7_84 kX7_in ⟨Nat.le_of_ble_eq_true rfl, Nat.le_of_ble_eq_true rfl⟩ ⟨Nat.le_of_ble_eq_true rfl, Nat.le_of_ble_eq_true rfl⟩ rfl rfl (Nat.le_of_ble_eq_true rfl) (mX7_in l D cy kd ln rh _ a2 0 1 M1  h) dX7_longest_12 (fun c6 M5 g7 h => ?_)
    have h := h g7
    refine q_if_eq (tgt := 22) C g7 (by decide) dX7_longest_15 (fun b8 => ?_) (fun b8 => ?_)
    · have h := h.1 b8
      exact t22  M5 h
    · have h := h.2 b8
      refine q_iconst C dX7_longest_18 ?_
      refine q_goto (tgt := 23) C (by decide) dX7_longest_19 ?_
      exact t23  1 M5 h
set_option maxHeartbeats 4000000 in
set_option maxRecDepth 100000 in
theorem mX6_addToTape (l : Launch) (D : va_G) (cy : Nat → ClassId) (kd : gKd) (ln : gLn) (rh : gRh) (post : gM → Prop) (a0 : Int) (a1 : Int) (M : gM) (hk0 : kd a0 = 6) (h : wX6_addToTape kd ln post a0 a1 M) : gMV l D cy yX6_addToTape cX6_addToTape 3 0 0 [.ref (gad a0), .int (gI a1)] kd ln rh M post := by
  refine gMV_of (own := RX6) (by decide) rfl (Nat.le_of_ble_eq_true rfl) ?_
  intro p e s m args below meth c A H0 Q C hret
  have t3 : ∀ (n : Nat) (x2 : Int) (M : gM), wX6_addToTape_3 kd ln post a0 a1 n x2 M → gW p l e (gRm 0 0) s m args below meth c D cy A H0 Q 3 kd ln rh 0 0 M 3 [(0, .ref (gad a0)), (1, .int (gI a1)), (2, .int (gI x2))] [] := by
    intro n
    induction n with
    | zero => intro x2 M h; exact absurd h (by simp [wX6_addToTape_3])
    | succ n ih =>
      intro x2 M h
      have hk3_ := ih
      rw [wX6_addToTape_3] at h
      refine q_iload_n C 2 rfl rfl dX6_addToTape_3 ?_
      obtain ⟨r1, h⟩ := h
      refine q_if_lt (tgt := 39) C r1 (by decide) dX6_addToTape_4 (fun b2 => ?_) (fun b2 => ?_)
      · have h := h.1 b2
        exact hret M _ _ dX6_addToTape_39 h
      · have h := h.2 b2
        refine q_aload_n C 0 rfl rfl dX6_addToTape_7 ?_
        obtain ⟨r3, h⟩ := h
        refine q_get (v := .ref (rh a0 9)) C fX6_43 hk0 (if_neg (Int.not_lt.mpr r3)) dX6_addToTape_8 (fun g4 => ?_)
        refine q_aload_n C 0 rfl rfl dX6_addToTape_11 ?_
        refine q_get (v := .int (gI (M a0 10 (-1)))) C fX6_167 hk0 rfl dX6_addToTape_12 (fun g5 => ?_)
        have h := h g5
        refine q_iload_n C 1 rfl rfl dX6_addToTape_15 ?_
        refine q_iload_n C 2 rfl rfl dX6_addToTape_16 ?_
        refine q_iushr C dX6_addToTape_17 ?_
        refine q_sipush C (by decide) dX6_addToTape_18 ?_
        refine q_iand C dX6_addToTape_21 ?_
        obtain ⟨r6, h⟩ := h
        obtain ⟨r7, h⟩ := h
        refine q_iast C hk0 rfl r7 r6 dX6_addToTape_22 ?_
        refine q_aload_n C 0 rfl rfl dX6_addToTape_23 ?_
        refine q_dup C rfl dX6_addToTape_24 ?_
        refine q_get (v := .int (gI ((gu M a0 9 (M a0 10 (-1)) (giand (giushr a1 x2) 255)) a0 10 (-1)))) C fX6_167 hk0 rfl dX6_addToTape_25 (fun g8 => ?_)
        have h := h g8
        refine q_iconst C dX6_addToTape_28 ?_
        refine q_iadd C dX6_addToTape_29 ?_
        obtain ⟨r9, h⟩ := h
        refine q_put (x := (((gu M a0 9 (M a0 10 (-1)) (giand (giushr a1 x2) 255)) a0 10 (-1)) + 1)) (ty := .int) C fX6_167 hk0 (fun _ _ _ q => by cases q; rfl) (congrArg (fun z => Value.int (gI z)) gu_s) rfl rfl r9 (fun j q => absurd (show (0 : Nat) = j + 3 from q) (by omega)) dX6_addToTape_30 ?_
        refine q_iinc (lv' := [(2, .int (gI (x2 + (-8)))), (0, .ref (gad a0)), (1, .int (gI a1))]) C 2 rfl (by decide) rfl dX6_addToTape_33 ?_
        refine q_goto (tgt := 3) C (by decide) dX6_addToTape_36 ?_
        refine q_lv (lv' := [(0, .ref (gad a0)), (1, .int (gI a1)), (2, .int (gI (x2 + (-8))))]) [1, 2, 0] rfl ?_
        exact hk3_ (x2 + (-8)) (gu (gu M a0 9 (M a0 10 (-1)) (giand (giushr a1 x2) 255)) a0 10 (-1) (((gu M a0 9 (M a0 10 (-1)) (giand (giushr a1 x2) 255)) a0 10 (-1)) + 1)) h
  unfold wX6_addToTape at h
  refine q_bipush C (by decide) dX6_addToTape_0 ?_
  refine q_istore_n (lv' := [(2, .int (gI 24)), (0, .ref (gad a0)), (1, .int (gI a1))]) C rfl (by decide) rfl dX6_addToTape_2 ?_
  refine q_lv (lv' := [(0, .ref (gad a0)), (1, .int (gI a1)), (2, .int (gI 24))]) [1, 2, 0] rfl ?_
  obtain ⟨j3, h⟩ := h
  exact t3  j3 24 M h
set_option maxHeartbeats 4000000 in
set_option maxRecDepth 100000 in
theorem mX6_feed (l : Launch) (D : va_G) (cy : Nat → ClassId) (kd : gKd) (ln : gLn) (rh : gRh) (post : Int → gM → Prop) (a0 : Int) (a1 : Int) (a2 : Int) (a3 : Int) (a4 : Int) (a5 : Int) (M : gM) (hk0 : kd a0 = 6) (h : wX6_feed kd ln post a0 a1 a2 a3 a4 a5 M) : gMI l D cy yX6_feed cX6_feed 6 .int 1 22 [.ref (gad a0), .int (gI a1), .int (gI a2), .int (gI a3), .int (gI a4), .int (gI a5)] kd ln rh M post := by
  refine gMI_of (own := RX6) (by decide) rfl (Nat.le_of_ble_eq_true rfl) ?_
  intro p e s m args below meth c A H0 Q C hret
  unfold wX6_feed at h
  refine q_aload_n C 0 rfl rfl dX6_feed_0 ?_
  refine q_get (v := .int (gI (M a0 10 (-1)))) C fX6_167 hk0 rfl dX6_feed_1 (fun g1 => ?_)
  have h := h g1
  refine q_bipush C (by decide) dX6_feed_4 ?_
  refine q_iadd C dX6_feed_6 ?_
  refine q_bipush C (by decide) dX6_feed_7 ?_
  obtain ⟨r2, h⟩ := h
  refine q_icmp_le (tgt := 14) C r2 (show rng 40 by decide) (by decide) dX6_feed_9 (fun b3 => ?_) (fun b3 => ?_)
  · have h := h.1 b3
    refine q_aload_n C 0 rfl rfl dX6_feed_14 ?_
    refine q_iload_n C 1 rfl rfl dX6_feed_15 ?_
    refine q_callVV (As := [.int (gI a1)]) (st := []) C vX6_170 kX6_addToTape ⟨Nat.le_of_ble_eq_true rfl, Nat.le_of_ble_eq_true rfl⟩ ⟨Nat.le_of_ble_eq_true rfl, Nat.le_of_ble_eq_true rfl⟩ rfl hk0 ⟨_, _, rfl⟩ (by decide) rfl (Nat.le_of_ble_eq_true rfl) (mX6_addToTape l D cy kd ln rh _ a0 a1 M hk0 h) dX6_feed_16 (fun M4 h => ?_)
    refine q_aload_n C 0 rfl rfl dX6_feed_19 ?_
    refine q_iload_n C 2 rfl rfl dX6_feed_20 ?_
    refine q_callVV (As := [.int (gI a2)]) (st := []) C vX6_170 kX6_addToTape ⟨Nat.le_of_ble_eq_true rfl, Nat.le_of_ble_eq_true rfl⟩ ⟨Nat.le_of_ble_eq_true rfl, Nat.le_of_ble_eq_true rfl⟩ rfl hk0 ⟨_, _, rfl⟩ (by decide) rfl (Nat.le_of_ble_eq_true rfl) (mX6_addToTape l D cy kd ln rh _ a0 a2 M4 hk0 h) dX6_feed_21 (fun M7 h => ?_)
    refine q_aload_n C 0 rfl rfl dX6_feed_24 ?_
    refine q_iload_n C 3 rfl rfl dX6_feed_25 ?_
    refine q_callVV (As := [.int (gI a3)]) (st := []) C vX6_170 kX6_addToTape ⟨Nat.le_of_ble_eq_true rfl, Nat.le_of_ble_eq_true rfl⟩ ⟨Nat.le_of_ble_eq_true rfl, Nat.le_of_ble_eq_true rfl⟩ rfl hk0 ⟨_, _, rfl⟩ (by decide) rfl (Nat.le_of_ble_eq_true rfl) (mX6_addToTape l D cy kd ln rh _ a0 a3 M7 hk0 h) dX6_feed_26 (fun M10 h => ?_)
    refine q_aload_n C 0 rfl rfl dX6_feed_29 ?_
    refine q_iload C 4 rfl dX6_feed_30 ?_
    refine q_callVV (As := [.int (gI a4)]) (st := []) C vX6_170 kX6_addToTape ⟨Nat.le_of_ble_eq_true rfl, Nat.le_of_ble_eq_true rfl⟩ ⟨Nat.le_of_ble_eq_true rfl, Nat.le_of_ble_eq_true rfl⟩ rfl hk0 ⟨_, _, rfl⟩ (by decide) rfl (Nat.le_of_ble_eq_true rfl) (mX6_addToTape l D cy kd ln rh _ a0 a4 M10 hk0 h) dX6_feed_32 (fun M13 h => ?_)
    refine q_aload_n C 0 rfl rfl dX6_feed_35 ?_
    refine q_iload C 5 rfl dX6_feed_36 ?_
    refine q_callVV (As := [.int (gI a5)]) (st := []) C vX6_170 kX6_addToTape ⟨Nat.le_of_ble_eq_true rfl, Nat.le_of_ble_eq_true rfl⟩ ⟨Nat.le_of_ble_eq_true rfl, Nat.le_of_ble_eq_true rfl⟩ rfl hk0 ⟨_, _, rfl⟩ (by decide) rfl (Nat.le_of_ble_eq_true rfl) (mX6_addToTape l D cy kd ln rh _ a0 a5 M13 hk0 h) dX6_feed_38 (fun M16 h => ?_)
    refine q_aload_n C 0 rfl rfl dX6_feed_41 ?_
    refine q_get (v := .int (gI (M16 a0 10 (-1)))) C fX6_167 hk0 rfl dX6_feed_42 (fun g19 => ?_)
    have h := h g19
    exact hret (M16 a0 10 (-1)) M16 _ _ dX6_feed_45 g19 h
  · have h := h.2 b3
    refine q_iconst C dX6_feed_12 ?_
    exact hret (-1) M _ _ dX6_feed_13 (show rng (-1) by decide) h
set_option maxHeartbeats 4000000 in
set_option maxRecDepth 100000 in
theorem mX7_four (l : Launch) (D : va_G) (cy : Nat → ClassId) (kd : gKd) (ln : gLn) (rh : gRh) (post : gM → Prop) (a0 : Int) (a1 : Int) (M : gM) (hk0 : kd a0 = 7) (h : wX7_four kd ln post a0 a1 M) : gMV l D cy yX7_four cX7_four 3 0 0 [.ref (gad a0), .int (gI a1)] kd ln rh M post := by
  refine gMV_of (own := RX7) (by decide) rfl (Nat.le_of_ble_eq_true rfl) ?_
  intro p e s m args below meth c A H0 Q C hret
  have t3 : ∀ (n : Nat) (x2 : Int) (M : gM), wX7_four_3 kd ln post a0 a1 n x2 M → gW p l e (gRm 0 0) s m args below meth c D cy A H0 Q 3 kd ln rh 0 0 M 3 [(0, .ref (gad a0)), (1, .int (gI a1)), (2, .int (gI x2))] [] := by
    intro n
    induction n with
    | zero => intro x2 M h; exact absurd h (by simp [wX7_four_3])
    | succ n ih =>
      intro x2 M h
      have hk3_ := ih
      rw [wX7_four_3] at h
      refine q_iload_n C 2 rfl rfl dX7_four_3 ?_
      obtain ⟨r1, h⟩ := h
      refine q_if_lt (tgt := 36) C r1 (by decide) dX7_four_4 (fun b2 => ?_) (fun b2 => ?_)
      · have h := h.1 b2
        exact hret M _ _ dX7_four_36 h
      · have h := h.2 b2
        refine q_aload_n C 0 rfl rfl dX7_four_7 ?_
        obtain ⟨r3, h⟩ := h
        refine q_get (v := .ref (rh a0 8)) C fX7_36 hk0 (if_neg (Int.not_lt.mpr r3)) dX7_four_8 (fun g4 => ?_)
        refine q_aload_n C 0 rfl rfl dX7_four_11 ?_
        refine q_get (v := .int (gI (M a0 9 (-1)))) C fX7_208 hk0 rfl dX7_four_12 (fun g5 => ?_)
        have h := h g5
        refine q_iload_n C 1 rfl rfl dX7_four_15 ?_
        refine q_iload_n C 2 rfl rfl dX7_four_16 ?_
        refine q_ishr C dX7_four_17 ?_
        refine q_i2b C dX7_four_18 ?_
        obtain ⟨r6, h⟩ := h
        obtain ⟨r7, h⟩ := h
        refine q_bast C hk0 rfl (rng8 r7) r7 r6 dX7_four_19 ?_
        refine q_aload_n C 0 rfl rfl dX7_four_20 ?_
        refine q_dup C rfl dX7_four_21 ?_
        refine q_get (v := .int (gI ((gu M a0 8 (M a0 9 (-1)) (gi2b (gishr a1 x2))) a0 9 (-1)))) C fX7_208 hk0 rfl dX7_four_22 (fun g8 => ?_)
        have h := h g8
        refine q_iconst C dX7_four_25 ?_
        refine q_iadd C dX7_four_26 ?_
        obtain ⟨r9, h⟩ := h
        refine q_put (x := (((gu M a0 8 (M a0 9 (-1)) (gi2b (gishr a1 x2))) a0 9 (-1)) + 1)) (ty := .int) C fX7_208 hk0 (fun _ _ _ q => by cases q; rfl) (congrArg (fun z => Value.int (gI z)) gu_s) rfl rfl r9 (fun j q => absurd (show (0 : Nat) = j + 3 from q) (by omega)) dX7_four_27 ?_
        refine q_iinc (lv' := [(2, .int (gI (x2 + (-8)))), (0, .ref (gad a0)), (1, .int (gI a1))]) C 2 rfl (by decide) rfl dX7_four_30 ?_
        refine q_goto (tgt := 3) C (by decide) dX7_four_33 ?_
        refine q_lv (lv' := [(0, .ref (gad a0)), (1, .int (gI a1)), (2, .int (gI (x2 + (-8))))]) [1, 2, 0] rfl ?_
        exact hk3_ (x2 + (-8)) (gu (gu M a0 8 (M a0 9 (-1)) (gi2b (gishr a1 x2))) a0 9 (-1) (((gu M a0 8 (M a0 9 (-1)) (gi2b (gishr a1 x2))) a0 9 (-1)) + 1)) h
  unfold wX7_four at h
  refine q_bipush C (by decide) dX7_four_0 ?_
  refine q_istore_n (lv' := [(2, .int (gI 24)), (0, .ref (gad a0)), (1, .int (gI a1))]) C rfl (by decide) rfl dX7_four_2 ?_
  refine q_lv (lv' := [(0, .ref (gad a0)), (1, .int (gI a1)), (2, .int (gI 24))]) [1, 2, 0] rfl ?_
  obtain ⟨j3, h⟩ := h
  exact t3  j3 24 M h
set_option maxHeartbeats 4000000 in
set_option maxRecDepth 100000 in
theorem mX7_feed (l : Launch) (D : va_G) (cy : Nat → ClassId) (kd : gKd) (ln : gLn) (rh : gRh) (post : Int → gM → Prop) (a0 : Int) (a1 : Int) (a2 : Int) (a3 : Int) (a4 : Int) (a5 : Int) (M : gM) (hk0 : kd a0 = 7) (h : wX7_feed kd ln post a0 a1 a2 a3 a4 a5 M) : gMI l D cy yX7_feed cX7_feed 6 .int 1 22 [.ref (gad a0), .int (gI a1), .int (gI a2), .int (gI a3), .int (gI a4), .int (gI a5)] kd ln rh M post := by
  refine gMI_of (own := RX7) (by decide) rfl (Nat.le_of_ble_eq_true rfl) ?_
  intro p e s m args below meth c A H0 Q C hret
  unfold wX7_feed at h
  refine q_aload_n C 0 rfl rfl dX7_feed_0 ?_
  refine q_iconst C dX7_feed_1 ?_
  refine q_put (x := 0) (ty := .int) C fX7_81 hk0 (fun _ _ _ q => by cases q; rfl) (congrArg (fun z => Value.int (gI z)) gu_s) rfl rfl (show rng 0 by decide) (fun j q => absurd (show (0 : Nat) = j + 3 from q) (by omega)) dX7_feed_2 ?_
  refine q_aload_n C 0 rfl rfl dX7_feed_5 ?_
  refine q_get (v := .int (gI ((gu M a0 0 (-1) 0) a0 9 (-1)))) C fX7_208 hk0 rfl dX7_feed_6 (fun g1 => ?_)
  have h := h g1
  refine q_bipush C (by decide) dX7_feed_9 ?_
  refine q_iadd C dX7_feed_11 ?_
  refine q_bipush C (by decide) dX7_feed_12 ?_
  obtain ⟨r2, h⟩ := h
  refine q_icmp_le (tgt := 19) C r2 (show rng 40 by decide) (by decide) dX7_feed_14 (fun b3 => ?_) (fun b3 => ?_)
  · have h := h.1 b3
    refine q_aload_n C 0 rfl rfl dX7_feed_19 ?_
    refine q_iload_n C 1 rfl rfl dX7_feed_20 ?_
    refine q_callVV (As := [.int (gI a1)]) (st := []) C vX7_211 kX7_four ⟨Nat.le_of_ble_eq_true rfl, Nat.le_of_ble_eq_true rfl⟩ ⟨Nat.le_of_ble_eq_true rfl, Nat.le_of_ble_eq_true rfl⟩ rfl hk0 ⟨_, _, rfl⟩ (by decide) rfl (Nat.le_of_ble_eq_true rfl) (mX7_four l D cy kd ln rh _ a0 a1 (gu M a0 0 (-1) 0) hk0 h) dX7_feed_21 (fun M4 h => ?_)
    refine q_aload_n C 0 rfl rfl dX7_feed_24 ?_
    refine q_iload_n C 2 rfl rfl dX7_feed_25 ?_
    refine q_callVV (As := [.int (gI a2)]) (st := []) C vX7_211 kX7_four ⟨Nat.le_of_ble_eq_true rfl, Nat.le_of_ble_eq_true rfl⟩ ⟨Nat.le_of_ble_eq_true rfl, Nat.le_of_ble_eq_true rfl⟩ rfl hk0 ⟨_, _, rfl⟩ (by decide) rfl (Nat.le_of_ble_eq_true rfl) (mX7_four l D cy kd ln rh _ a0 a2 M4 hk0 h) dX7_feed_26 (fun M7 h => ?_)
    refine q_aload_n C 0 rfl rfl dX7_feed_29 ?_
    refine q_iload_n C 3 rfl rfl dX7_feed_30 ?_
    refine q_callVV (As := [.int (gI a3)]) (st := []) C vX7_211 kX7_four ⟨Nat.le_of_ble_eq_true rfl, Nat.le_of_ble_eq_true rfl⟩ ⟨Nat.le_of_ble_eq_true rfl, Nat.le_of_ble_eq_true rfl⟩ rfl hk0 ⟨_, _, rfl⟩ (by decide) rfl (Nat.le_of_ble_eq_true rfl) (mX7_four l D cy kd ln rh _ a0 a3 M7 hk0 h) dX7_feed_31 (fun M10 h => ?_)
    refine q_aload_n C 0 rfl rfl dX7_feed_34 ?_
    refine q_iload C 4 rfl dX7_feed_35 ?_
    refine q_callVV (As := [.int (gI a4)]) (st := []) C vX7_211 kX7_four ⟨Nat.le_of_ble_eq_true rfl, Nat.le_of_ble_eq_true rfl⟩ ⟨Nat.le_of_ble_eq_true rfl, Nat.le_of_ble_eq_true rfl⟩ rfl hk0 ⟨_, _, rfl⟩ (by decide) rfl (Nat.le_of_ble_eq_true rfl) (mX7_four l D cy kd ln rh _ a0 a4 M10 hk0 h) dX7_feed_37 (fun M13 h => ?_)
    refine q_aload_n C 0 rfl rfl dX7_feed_40 ?_
    refine q_iload C 5 rfl dX7_feed_41 ?_
    refine q_callVV (As := [.int (gI a5)]) (st := []) C vX7_211 kX7_four ⟨Nat.le_of_ble_eq_true rfl, Nat.le_of_ble_eq_true rfl⟩ ⟨Nat.le_of_ble_eq_true rfl, Nat.le_of_ble_eq_true rfl⟩ rfl hk0 ⟨_, _, rfl⟩ (by decide) rfl (Nat.le_of_ble_eq_true rfl) (mX7_four l D cy kd ln rh _ a0 a5 M13 hk0 h) dX7_feed_43 (fun M16 h => ?_)
    refine q_aload_n C 0 rfl rfl dX7_feed_46 ?_
    refine q_get (v := .int (gI (M16 a0 9 (-1)))) C fX7_208 hk0 rfl dX7_feed_47 (fun g19 => ?_)
    have h := h g19
    exact hret (M16 a0 9 (-1)) M16 _ _ dX7_feed_50 g19 h
  · have h := h.2 b3
    refine q_iconst C dX7_feed_17 ?_
    exact hret (-1) (gu M a0 0 (-1) 0) _ _ dX7_feed_18 (show rng (-1) by decide) h
set_option maxHeartbeats 4000000 in
set_option maxRecDepth 100000 in
theorem mX6_letterAt (l : Launch) (D : va_G) (cy : Nat → ClassId) (kd : gKd) (ln : gLn) (rh : gRh) (post : Int → gM → Prop) (a0 : Nat) (a1 : Int) (M : gM) (hk0 : a0 < 2) (h : wX6_letterAt kd ln post a0 a1 M) : gMI l D cy yX6_letterAt cX6_letterAt 3 .int 0 0 [.ref (cy (20 + a0)), .int (gI a1)] kd ln rh M post := by
  refine gMI_of (own := RX6) (by decide) rfl (Nat.le_of_ble_eq_true rfl) ?_
  intro p e s m args below meth c A H0 Q C hret
  have t2 : ∀ (n : Nat) (x2 : Int) (M : gM), wX6_letterAt_2 kd ln post a0 a1 n x2 M → gW p l e (gRm 0 0) s m args below meth c D cy A H0 Q 3 kd ln rh 0 0 M 2 [(0, .ref (cy (20 + a0))), (1, .int (gI a1)), (2, .int (gI x2))] [] := by
    intro n
    induction n with
    | zero => intro x2 M h; exact absurd h (by simp [wX6_letterAt_2])
    | succ n ih =>
      intro x2 M h
      have hk2_ := ih
      rw [wX6_letterAt_2] at h
      refine q_iload_n C 2 rfl rfl dX6_letterAt_2 ?_
      refine q_aload_n C 0 rfl rfl dX6_letterAt_3 ?_
      refine q_clen C hk0 dX6_letterAt_4 ?_
      obtain ⟨r1, h⟩ := h
      obtain ⟨r2, h⟩ := h
      refine q_icmp_ge (tgt := 23) C r1 r2 (by decide) dX6_letterAt_5 (fun b3 => ?_) (fun b3 => ?_)
      · have h := h.1 b3
        refine q_iconst C dX6_letterAt_23 ?_
        exact hret (-1) M _ _ dX6_letterAt_24 (show rng (-1) by decide) h
      · have h := h.2 b3
        refine q_aload_n C 0 rfl rfl dX6_letterAt_8 ?_
        refine q_iload_n C 2 rfl rfl dX6_letterAt_9 ?_
        obtain ⟨r4, h⟩ := h
        refine q_cald C hk0 r4 dX6_letterAt_10 (fun g5 => ?_)
        have h := h g5
        refine q_iload_n C 1 rfl rfl dX6_letterAt_11 ?_
        obtain ⟨r6, h⟩ := h
        refine q_icmp_ne (tgt := 17) C g5 r6 (by decide) dX6_letterAt_12 (fun b7 => ?_) (fun b7 => ?_)
        · have h := h.1 b7
          refine q_iinc (lv' := [(2, .int (gI (x2 + 1))), (0, .ref (cy (20 + a0))), (1, .int (gI a1))]) C 2 rfl (by decide) rfl dX6_letterAt_17 ?_
          refine q_goto (tgt := 2) C (by decide) dX6_letterAt_20 ?_
          refine q_lv (lv' := [(0, .ref (cy (20 + a0))), (1, .int (gI a1)), (2, .int (gI (x2 + 1)))]) [1, 2, 0] rfl ?_
          exact hk2_ (x2 + 1) M h
        · have h := h.2 b7
          refine q_iload_n C 2 rfl rfl dX6_letterAt_15 ?_
          exact hret x2 M _ _ dX6_letterAt_16 r1 h
  unfold wX6_letterAt at h
  refine q_iconst C dX6_letterAt_0 ?_
  refine q_istore_n (lv' := [(2, .int (gI 0)), (0, .ref (cy (20 + a0))), (1, .int (gI a1))]) C rfl (by decide) rfl dX6_letterAt_1 ?_
  refine q_lv (lv' := [(0, .ref (cy (20 + a0))), (1, .int (gI a1)), (2, .int (gI 0))]) [1, 2, 0] rfl ?_
  obtain ⟨j2, h⟩ := h
  exact t2  j2 0 M h
set_option maxHeartbeats 4000000 in
set_option maxRecDepth 100000 in
theorem mX6_squareOfText (l : Launch) (D : va_G) (cy : Nat → ClassId) (kd : gKd) (ln : gLn) (rh : gRh) (post : Int → gM → Prop) (a0 : Int) (a1 : Int) (M : gM) (hk0 : kd a0 = 6) (h : wX6_squareOfText kd ln post a0 a1 M) : gMI l D cy yX6_squareOfText cX6_squareOfText 5 .int 0 0 [.ref (gad a0), .int (gI a1)] kd ln rh M post := by
  refine gMI_of (own := RX6) (by decide) rfl (Nat.le_of_ble_eq_true rfl) ?_
  intro p e s m args below meth c A H0 Q C hret
  have t57 : ∀ (x2 : Int) (x3 : Int) (y0 : Int) (M : gM), wX6_squareOfText_57 kd ln post a0 a1 x2 x3 y0 M → gW p l e (gRm 0 0) s m args below meth c D cy A H0 Q 5 kd ln rh 0 0 M 57 [(0, .ref (gad a0)), (2, .int (gI x2)), (3, .int (gI x3))] [.int (gI y0)] := by
    intro  x2 x3 y0 M h
    unfold wX6_squareOfText_57 at h
    refine q_istore (lv' := [(4, .int (gI y0)), (0, .ref (gad a0)), (2, .int (gI x2)), (3, .int (gI x3))]) C (by decide) rfl dX6_squareOfText_57 ?_
    refine q_iload C 0 rfl dX6_squareOfText_59 ?_
    obtain ⟨r21, h⟩ := h
    refine q_if_eq (tgt := 78) C r21 (by decide) dX6_squareOfText_61 (fun b22 => ?_) (fun b22 => ?_)
    · have h := h.1 b22
      refine q_iconst C dX6_squareOfText_78 ?_
      exact hret (-1) M _ _ dX6_squareOfText_79 (show rng (-1) by decide) h
    · have h := h.2 b22
      refine q_aload_n C 1 rfl rfl dX6_squareOfText_64 ?_
      refine q_get (v := gR (M a0 1 (-1))) C fX6_52 hk0 rfl dX6_squareOfText_65 (fun g23 => ?_)
      obtain ⟨r24, h⟩ := h
      refine q_nn r24 (by decide) ?_
      refine q_get (v := .int (gI (M (M a0 1 (-1)) 0 (-1)))) C fX6_87 r24 rfl dX6_squareOfText_68 (fun g25 => ?_)
      have h := h g25
      refine q_iload_n C 3 rfl rfl dX6_squareOfText_71 ?_
      refine q_imul C dX6_squareOfText_72 ?_
      refine q_iload_n C 2 rfl rfl dX6_squareOfText_73 ?_
      refine q_iadd C dX6_squareOfText_74 ?_
      refine q_goto (tgt := 79) C (by decide) dX6_squareOfText_75 ?_
      obtain ⟨r26, h⟩ := h
      exact hret (((M (M a0 1 (-1)) 0 (-1)) * x3) + x2) M _ _ dX6_squareOfText_79 r26 h
  have t56 : ∀ (x2 : Int) (x3 : Int) (M : gM), wX6_squareOfText_56 kd ln post a0 a1 x2 x3 M → gW p l e (gRm 0 0) s m args below meth c D cy A H0 Q 5 kd ln rh 0 0 M 56 [(0, .ref (gad a0)), (2, .int (gI x2)), (3, .int (gI x3))] [] := by
    intro  x2 x3 M h
    unfold wX6_squareOfText_56 at h
    refine q_iconst C dX6_squareOfText_56 ?_
    exact t57  x2 x3 0 M h
  unfold wX6_squareOfText at h
  refine q_aload_n C 0 rfl rfl dX6_squareOfText_0 ?_
  obtain ⟨r1, h⟩ := h
  refine q_get (v := .ref (rh a0 9)) C fX6_43 hk0 (if_neg (Int.not_lt.mpr r1)) dX6_squareOfText_1 (fun g2 => ?_)
  refine q_iload_n C 1 rfl rfl dX6_squareOfText_4 ?_
  obtain ⟨r3, h⟩ := h
  refine q_iald C hk0 rfl (fun _ q => q) r3 dX6_squareOfText_5 (fun g4 => ?_)
  have h := h g4
  refine q_bipush C (by decide) dX6_squareOfText_6 ?_
  refine q_isub C dX6_squareOfText_8 ?_
  refine q_topi (fun v5 ev5 => ?_)
  have h := h v5 ev5
  refine q_istore_n (lv' := [(2, .int (gI v5)), (0, .ref (gad a0)), (1, .int (gI a1))]) C rfl (by decide) rfl dX6_squareOfText_9 ?_
  refine q_aload_n C 1 rfl rfl dX6_squareOfText_10 ?_
  refine q_get (v := .ref (rh a0 9)) C fX6_43 hk0 (if_neg (Int.not_lt.mpr r1)) dX6_squareOfText_11 (fun g6 => ?_)
  refine q_iload_n C 2 rfl rfl dX6_squareOfText_14 ?_
  refine q_iconst C dX6_squareOfText_15 ?_
  refine q_iadd C dX6_squareOfText_16 ?_
  obtain ⟨r7, h⟩ := h
  refine q_iald C hk0 rfl (fun _ q => q) r7 dX6_squareOfText_17 (fun g8 => ?_)
  have h := h g8
  refine q_bipush C (by decide) dX6_squareOfText_18 ?_
  refine q_isub C dX6_squareOfText_20 ?_
  refine q_topi (fun v9 ev9 => ?_)
  have h := h v9 ev9
  refine q_istore_n (lv' := [(3, .int (gI v9)), (2, .int (gI v5)), (0, .ref (gad a0)), (1, .int (gI a1))]) C rfl (by decide) rfl dX6_squareOfText_21 ?_
  refine q_iload_n C 1 rfl rfl dX6_squareOfText_22 ?_
  obtain ⟨r10, h⟩ := h
  refine q_if_lt (tgt := 56) C r10 (by decide) dX6_squareOfText_23 (fun b11 => ?_) (fun b11 => ?_)
  · have h := h.1 b11
    refine q_lv (lv' := [(0, .ref (gad a0)), (2, .int (gI v5)), (3, .int (gI v9))]) [2, 1, 0] rfl ?_
    exact t56  v5 v9 M h
  · have h := h.2 b11
    refine q_iload_n C 1 rfl rfl dX6_squareOfText_26 ?_
    refine q_aload_n C 2 rfl rfl dX6_squareOfText_27 ?_
    refine q_get (v := gR (M a0 1 (-1))) C fX6_52 hk0 rfl dX6_squareOfText_28 (fun g12 => ?_)
    obtain ⟨r13, h⟩ := h
    refine q_nn r13 (by decide) ?_
    refine q_get (v := .int (gI (M (M a0 1 (-1)) 0 (-1)))) C fX6_87 r13 rfl dX6_squareOfText_31 (fun g14 => ?_)
    have h := h g14
    refine q_icmp_ge (tgt := 56) C r10 g14 (by decide) dX6_squareOfText_34 (fun b15 => ?_) (fun b15 => ?_)
    · have h := h.1 b15
      refine q_lv (lv' := [(0, .ref (gad a0)), (2, .int (gI v5)), (3, .int (gI v9))]) [2, 1, 0] rfl ?_
      exact t56  v5 v9 M h
    · have h := h.2 b15
      refine q_iload_n C 0 rfl rfl dX6_squareOfText_37 ?_
      obtain ⟨r16, h⟩ := h
      refine q_if_lt (tgt := 56) C r16 (by decide) dX6_squareOfText_38 (fun b17 => ?_) (fun b17 => ?_)
      · have h := h.1 b17
        refine q_lv (lv' := [(0, .ref (gad a0)), (2, .int (gI v5)), (3, .int (gI v9))]) [2, 1, 0] rfl ?_
        exact t56  v5 v9 M h
      · have h := h.2 b17
        refine q_iload_n C 0 rfl rfl dX6_squareOfText_41 ?_
        refine q_aload_n C 2 rfl rfl dX6_squareOfText_42 ?_
        refine q_get (v := gR (M a0 1 (-1))) C fX6_52 hk0 rfl dX6_squareOfText_43 (fun g18 => ?_)
        refine q_nn r13 (by decide) ?_
        refine q_get (v := .int (gI (M (M a0 1 (-1)) 0 (-1)))) C fX6_87 r13 rfl dX6_squareOfText_46 (fun g19 => ?_)
        refine q_icmp_ge (tgt := 56) C r16 g14 (by decide) dX6_squareOfText_49 (fun b20 => ?_) (fun b20 => ?_)
        · have h := h.1 b20
          refine q_lv (lv' := [(0, .ref (gad a0)), (2, .int (gI v5)), (3, .int (gI v9))]) [2, 1, 0] rfl ?_
          exact t56  v5 v9 M h
        · have h := h.2 b20
          refine q_iconst C dX6_squareOfText_52 ?_
          refine q_goto (tgt := 57) C (by decide) dX6_squareOfText_53 ?_
          refine q_lv (lv' := [(0, .ref (gad a0)), (2, .int (gI v5)), (3, .int (gI v9))]) [2, 1, 0] rfl ?_
          exact t57  v5 v9 1 M h
