set_option maxHeartbeats 4000000 in
set_option maxRecDepth 100000 in
theorem mX7_read (l : Launch) (D : va_G) (cy : Nat → ClassId) (kd : gKd) (ln : gLn) (rh : gRh) (post : Int → gM → Prop) (a0 : Int) (a1 : Int) (M : gM) (hk0 : kd a0 = 7) (h : wX7_read kd ln post a0 a1 M) : gMI l D cy yX7_read cX7_read 7 .int 4 100 [.ref (gad a0), .int (gI a1)] kd ln rh M post := by
  refine gMI_of (own := RX7) (by decide) rfl (Nat.le_of_ble_eq_true rfl) ?_
  intro p e s m args below meth c A H0 Q C hret
  have t171 : ∀ (x2 : Int) (y0 : Int) (M : gM), wX7_read_171 kd ln post a0 a1 x2 y0 M → gW p l e (gRm 4 100) s m args below meth c D cy A H0 Q 7 kd ln rh 0 0 M 171 [(0, .ref (gad a0)), (2, .int (gI x2))] [.int (gI y0)] := by
    intro  x2 y0 M h
    unfold wX7_read_171 at h
    refine q_istore_n (lv' := [(3, .int (gI y0)), (0, .ref (gad a0)), (2, .int (gI x2))]) C rfl (by decide) rfl dX7_read_171 ?_
    refine q_aload_n C 1 rfl rfl dX7_read_172 ?_
    refine q_iconst C dX7_read_173 ?_
    refine q_callVI (As := [.int (gI 1)]) (st := []) C vX7_214 kX7_squareAt ⟨Nat.le_refl _, Nat.le_refl _⟩ ⟨by decide, by decide⟩ rfl hk0 ⟨_, _, rfl⟩ (by decide) rfl (Nat.le_of_ble_eq_true rfl) (mX7_squareAt l D cy kd ln rh _ a0 1 M hk0 h) dX7_read_174 (fun c48 M47 g49 h => ?_)
    have h := h g49
    refine q_istore (lv' := [(4, .int (gI c48)), (3, .int (gI y0)), (0, .ref (gad a0)), (2, .int (gI x2))]) C (by decide) rfl dX7_read_177 ?_
    refine q_aload_n C 2 rfl rfl dX7_read_179 ?_
    refine q_iconst C dX7_read_180 ?_
    refine q_callVI (As := [.int (gI 5)]) (st := []) C vX7_214 kX7_squareAt ⟨Nat.le_refl _, Nat.le_refl _⟩ ⟨by decide, by decide⟩ rfl hk0 ⟨_, _, rfl⟩ (by decide) rfl (Nat.le_of_ble_eq_true rfl) (mX7_squareAt l D cy kd ln rh _ a0 5 M47 hk0 h) dX7_read_181 (fun c51 M50 g52 h => ?_)
    have h := h g52
    refine q_istore (lv' := [(5, .int (gI c51)), (4, .int (gI c48)), (3, .int (gI y0)), (0, .ref (gad a0)), (2, .int (gI x2))]) C (by decide) rfl dX7_read_184 ?_
    refine q_aload_n C 3 rfl rfl dX7_read_186 ?_
    refine q_bipush C (by decide) dX7_read_187 ?_
    refine q_callVI (As := [.int (gI 9)]) (st := []) C vX7_214 kX7_squareAt ⟨Nat.le_refl _, Nat.le_refl _⟩ ⟨by decide, by decide⟩ rfl hk0 ⟨_, _, rfl⟩ (by decide) rfl (Nat.le_of_ble_eq_true rfl) (mX7_squareAt l D cy kd ln rh _ a0 9 M50 hk0 h) dX7_read_189 (fun c54 M53 g55 h => ?_)
    have h := h g55
    refine q_istore (lv' := [(6, .int (gI c54)), (5, .int (gI c51)), (4, .int (gI c48)), (3, .int (gI y0)), (0, .ref (gad a0)), (2, .int (gI x2))]) C (by decide) rfl dX7_read_192 ?_
    refine q_aload_n C 4 rfl rfl dX7_read_194 ?_
    refine q_iload_n C 5 rfl rfl dX7_read_195 ?_
    refine q_iload C 2 rfl dX7_read_196 ?_
    refine q_iload C 0 rfl dX7_read_198 ?_
    refine q_iload C 1 rfl dX7_read_200 ?_
    refine q_iload_n C 3 rfl rfl dX7_read_202 ?_
    refine q_callVI (As := [.int (gI x2), .int (gI c48), .int (gI c54), .int (gI c51), .int (gI y0)]) (st := []) C vX7_183 kX7_areNumbers ⟨Nat.le_refl _, Nat.le_refl _⟩ ⟨by decide, by decide⟩ rfl hk0 ⟨_, _, rfl⟩ (by decide) rfl (Nat.le_of_ble_eq_true rfl) (mX7_areNumbers l D cy kd ln rh _ a0 x2 c48 c54 c51 y0 M53 hk0 h) dX7_read_203 (fun c57 M56 g58 h => ?_)
    have h := h g58
    refine q_if_eq (tgt := 224) C g58 (by decide) dX7_read_206 (fun b59 => ?_) (fun b59 => ?_)
    · have h := h.1 b59
      refine q_iconst C dX7_read_224 ?_
      exact hret (-1) M56 _ _ dX7_read_225 (show rng (-1) by decide) h
    · have h := h.2 b59
      refine q_aload_n C 4 rfl rfl dX7_read_209 ?_
      refine q_iload_n C 5 rfl rfl dX7_read_210 ?_
      refine q_iload C 2 rfl dX7_read_211 ?_
      refine q_iload C 0 rfl dX7_read_213 ?_
      refine q_iload C 1 rfl dX7_read_215 ?_
      refine q_iload_n C 3 rfl rfl dX7_read_217 ?_
      refine q_callVI (As := [.int (gI x2), .int (gI c48), .int (gI c54), .int (gI c51), .int (gI y0)]) (st := []) C vX7_107 kX7_legal ⟨Nat.le_refl _, Nat.le_refl _⟩ ⟨by decide, by decide⟩ rfl hk0 ⟨_, _, rfl⟩ (by decide) rfl (Nat.le_of_ble_eq_true rfl) (mX7_legal l D cy kd ln rh _ a0 x2 c48 c54 c51 y0 M56 hk0 h) dX7_read_218 (fun c61 M60 g62 h => ?_)
      have h := h g62
      refine q_if_ne (tgt := 226) C g62 (by decide) dX7_read_221 (fun b63 => ?_) (fun b63 => ?_)
      · have h := h.1 b63
        refine q_aload_n C 4 rfl rfl dX7_read_226 ?_
        refine q_iload C 2 rfl dX7_read_227 ?_
        refine q_iload C 0 rfl dX7_read_229 ?_
        refine q_iload C 1 rfl dX7_read_231 ?_
        refine q_iload_n C 3 rfl rfl dX7_read_233 ?_
        refine q_callVI (As := [.int (gI c48), .int (gI c54), .int (gI c51), .int (gI y0)]) (st := []) C vX7_119 kX7_key ⟨Nat.le_refl _, Nat.le_refl _⟩ ⟨by decide, by decide⟩ rfl hk0 ⟨_, _, rfl⟩ (by decide) rfl (Nat.le_of_ble_eq_true rfl) (mX7_key l D cy kd ln rh _ a0 c48 c54 c51 y0 M60 hk0 h) dX7_read_234 (fun c65 M64 g66 h => ?_)
        have h := h g66
        refine q_iconst C dX7_read_237 ?_
        refine q_aload_n C 4 rfl rfl dX7_read_238 ?_
        refine q_get (v := .int (gI (M64 a0 2 (-1)))) C fX7_13 hk0 rfl dX7_read_239 (fun g67 => ?_)
        have h := h g67
        refine q_imul C dX7_read_242 ?_
        refine q_aload_n C 4 rfl rfl dX7_read_243 ?_
        refine q_get (v := .int (gI (M64 a0 2 (-1)))) C fX7_13 hk0 rfl dX7_read_244 (fun g68 => ?_)
        refine q_imul C dX7_read_247 ?_
        refine q_aload_n C 4 rfl rfl dX7_read_248 ?_
        refine q_get (v := .int (gI (M64 a0 2 (-1)))) C fX7_13 hk0 rfl dX7_read_249 (fun g69 => ?_)
        refine q_imul C dX7_read_252 ?_
        refine q_iload_n C 5 rfl rfl dX7_read_253 ?_
        refine q_imul C dX7_read_254 ?_
        refine q_iadd C dX7_read_255 ?_
        obtain ⟨r70, h⟩ := h
        exact hret (c65 + ((((2 * (M64 a0 2 (-1))) * (M64 a0 2 (-1))) * (M64 a0 2 (-1))) * x2)) M64 _ _ dX7_read_256 r70 h
      · have h := h.2 b63
        refine q_iconst C dX7_read_224 ?_
        exact hret (-1) M60 _ _ dX7_read_225 (show rng (-1) by decide) h
  have t137 : ∀ (y0 : Int) (M : gM), wX7_read_137 kd ln post a0 a1 y0 M → gW p l e (gRm 4 100) s m args below meth c D cy A H0 Q 7 kd ln rh 0 0 M 137 [(0, .ref (gad a0))] [.int (gI y0)] := by
    intro  y0 M h
    unfold wX7_read_137 at h
    refine q_istore_n (lv' := [(2, .int (gI y0)), (0, .ref (gad a0))]) C rfl (by decide) rfl dX7_read_137 ?_
    refine q_aload_n C 1 rfl rfl dX7_read_138 ?_
    obtain ⟨r39, h⟩ := h
    refine q_get (v := .ref (rh a0 8)) C fX7_36 hk0 (if_neg (Int.not_lt.mpr r39)) dX7_read_139 (fun g40 => ?_)
    refine q_bipush C (by decide) dX7_read_142 ?_
    obtain ⟨r41, h⟩ := h
    refine q_bald C hk0 rfl (fun _ q => q) r41 dX7_read_144 (fun g42 => ?_)
    have h := h g42
    refine q_bipush C (by decide) dX7_read_145 ?_
    refine q_icmp_ne (tgt := 154) C g42 (show rng 119 by decide) (by decide) dX7_read_147 (fun b43 => ?_) (fun b43 => ?_)
    · have h := h.1 b43
      refine q_aload_n C 1 rfl rfl dX7_read_154 ?_
      refine q_get (v := .ref (rh a0 8)) C fX7_36 hk0 (if_neg (Int.not_lt.mpr r39)) dX7_read_155 (fun g44 => ?_)
      refine q_bipush C (by decide) dX7_read_158 ?_
      refine q_bald C hk0 rfl (fun _ q => q) r41 dX7_read_160 (fun g45 => ?_)
      refine q_bipush C (by decide) dX7_read_161 ?_
      refine q_icmp_ne (tgt := 170) C g42 (show rng 98 by decide) (by decide) dX7_read_163 (fun b46 => ?_) (fun b46 => ?_)
      · have h := h.1 b46
        refine q_iconst C dX7_read_170 ?_
        refine q_lv (lv' := [(0, .ref (gad a0)), (2, .int (gI y0))]) [1, 0] rfl ?_
        exact t171  y0 (-1) M h
      · have h := h.2 b46
        refine q_iconst C dX7_read_166 ?_
        refine q_goto (tgt := 171) C (by decide) dX7_read_167 ?_
        refine q_lv (lv' := [(0, .ref (gad a0)), (2, .int (gI y0))]) [1, 0] rfl ?_
        exact t171  y0 1 M h
    · have h := h.2 b43
      refine q_iconst C dX7_read_150 ?_
      refine q_goto (tgt := 171) C (by decide) dX7_read_151 ?_
      refine q_lv (lv' := [(0, .ref (gad a0)), (2, .int (gI y0))]) [1, 0] rfl ?_
      exact t171  y0 0 M h
  unfold wX7_read at h
  refine q_aload_n C 0 rfl rfl dX7_read_0 ?_
  refine q_iconst C dX7_read_1 ?_
  refine q_put (x := 0) (ty := .int) C fX7_81 hk0 (fun _ _ _ q => by cases q; rfl) (congrArg (fun z => Value.int (gI z)) gu_s) rfl rfl (show rng 0 by decide) dX7_read_2 ?_
  refine q_iload_n C 1 rfl rfl dX7_read_5 ?_
  refine q_iconst C dX7_read_6 ?_
  refine q_aload_n C 0 rfl rfl dX7_read_7 ?_
  refine q_get (v := .int (gI ((gu M a0 0 (-1) 0) a0 9 (-1)))) C fX7_208 hk0 rfl dX7_read_8 (fun g1 => ?_)
  have h := h g1
  refine q_callSI (As := [.int (gI a1), .int (gI 0), .int (gI ((gu M a0 0 (-1) 0) a0 9 (-1)))]) (st := []) C vX7_84 kX7_in ⟨Nat.le_refl _, Nat.le_refl _⟩ ⟨by decide, by decide⟩ rfl rfl (Nat.le_of_ble_eq_true rfl) (mX7_in l D cy kd ln rh _ a1 0 ((gu M a0 0 (-1) 0) a0 9 (-1)) (gu M a0 0 (-1) 0)  h) dX7_read_11 (fun c3 M2 g4 h => ?_)
  have h := h g4
  refine q_if_ne (tgt := 20) C g4 (by decide) dX7_read_14 (fun b5 => ?_) (fun b5 => ?_)
  · have h := h.1 b5
    refine q_aload_n C 0 rfl rfl dX7_read_20 ?_
    refine q_iconst C dX7_read_21 ?_
    refine q_put (x := 0) (ty := .int) C fX7_208 hk0 (fun _ _ _ q => by cases q; rfl) (congrArg (fun z => Value.int (gI z)) gu_s) rfl rfl (show rng 0 by decide) dX7_read_22 ?_
    refine q_iload_n C 1 rfl rfl dX7_read_25 ?_
    refine q_bipush C (by decide) dX7_read_26 ?_
    obtain ⟨r6, h⟩ := h
    refine q_icmp_ne (tgt := 89) C r6 (show rng 13 by decide) (by decide) dX7_read_28 (fun b7 => ?_) (fun b7 => ?_)
    · have h := h.1 b7
      refine q_iconst C dX7_read_89 ?_
      exact hret (-1) (gu M2 a0 9 (-1) 0) _ _ dX7_read_90 (show rng (-1) by decide) h
    · have h := h.2 b7
      refine q_aload_n C 0 rfl rfl dX7_read_31 ?_
      obtain ⟨r8, h⟩ := h
      refine q_get (v := .ref (rh a0 8)) C fX7_36 hk0 (if_neg (Int.not_lt.mpr r8)) dX7_read_32 (fun g9 => ?_)
      refine q_iconst C dX7_read_35 ?_
      obtain ⟨r10, h⟩ := h
      refine q_bald C hk0 rfl (fun _ q => q) r10 dX7_read_36 (fun g11 => ?_)
      have h := h g11
      refine q_bipush C (by decide) dX7_read_37 ?_
      refine q_icmp_ne (tgt := 89) C g11 (show rng 75 by decide) (by decide) dX7_read_39 (fun b12 => ?_) (fun b12 => ?_)
      · have h := h.1 b12
        refine q_iconst C dX7_read_89 ?_
        exact hret (-1) (gu M2 a0 9 (-1) 0) _ _ dX7_read_90 (show rng (-1) by decide) h
      · have h := h.2 b12
        refine q_aload_n C 0 rfl rfl dX7_read_42 ?_
        refine q_get (v := .ref (rh a0 8)) C fX7_36 hk0 (if_neg (Int.not_lt.mpr r8)) dX7_read_43 (fun g13 => ?_)
        refine q_iconst C dX7_read_46 ?_
        obtain ⟨r14, h⟩ := h
        refine q_bald C hk0 rfl (fun _ q => q) r14 dX7_read_47 (fun g15 => ?_)
        have h := h g15
        refine q_bipush C (by decide) dX7_read_48 ?_
        refine q_icmp_ne (tgt := 89) C g15 (show rng 32 by decide) (by decide) dX7_read_50 (fun b16 => ?_) (fun b16 => ?_)
        · have h := h.1 b16
          refine q_iconst C dX7_read_89 ?_
          exact hret (-1) (gu M2 a0 9 (-1) 0) _ _ dX7_read_90 (show rng (-1) by decide) h
        · have h := h.2 b16
          refine q_aload_n C 0 rfl rfl dX7_read_53 ?_
          refine q_get (v := .ref (rh a0 8)) C fX7_36 hk0 (if_neg (Int.not_lt.mpr r8)) dX7_read_54 (fun g17 => ?_)
          refine q_bipush C (by decide) dX7_read_57 ?_
          obtain ⟨r18, h⟩ := h
          refine q_bald C hk0 rfl (fun _ q => q) r18 dX7_read_59 (fun g19 => ?_)
          have h := h g19
          refine q_bipush C (by decide) dX7_read_60 ?_
          refine q_icmp_ne (tgt := 89) C g19 (show rng 32 by decide) (by decide) dX7_read_62 (fun b20 => ?_) (fun b20 => ?_)
          · have h := h.1 b20
            refine q_iconst C dX7_read_89 ?_
            exact hret (-1) (gu M2 a0 9 (-1) 0) _ _ dX7_read_90 (show rng (-1) by decide) h
          · have h := h.2 b20
            refine q_aload_n C 0 rfl rfl dX7_read_65 ?_
            refine q_get (v := .ref (rh a0 8)) C fX7_36 hk0 (if_neg (Int.not_lt.mpr r8)) dX7_read_66 (fun g21 => ?_)
            refine q_bipush C (by decide) dX7_read_69 ?_
            obtain ⟨r22, h⟩ := h
            refine q_bald C hk0 rfl (fun _ q => q) r22 dX7_read_71 (fun g23 => ?_)
            have h := h g23
            refine q_bipush C (by decide) dX7_read_72 ?_
            refine q_icmp_ne (tgt := 89) C g23 (show rng 107 by decide) (by decide) dX7_read_74 (fun b24 => ?_) (fun b24 => ?_)
            · have h := h.1 b24
              refine q_iconst C dX7_read_89 ?_
              exact hret (-1) (gu M2 a0 9 (-1) 0) _ _ dX7_read_90 (show rng (-1) by decide) h
            · have h := h.2 b24
              refine q_aload_n C 0 rfl rfl dX7_read_77 ?_
              refine q_get (v := .ref (rh a0 8)) C fX7_36 hk0 (if_neg (Int.not_lt.mpr r8)) dX7_read_78 (fun g25 => ?_)
              refine q_bipush C (by decide) dX7_read_81 ?_
              obtain ⟨r26, h⟩ := h
              refine q_bald C hk0 rfl (fun _ q => q) r26 dX7_read_83 (fun g27 => ?_)
              have h := h g27
              refine q_bipush C (by decide) dX7_read_84 ?_
              refine q_icmp_eq (tgt := 91) C g27 (show rng 32 by decide) (by decide) dX7_read_86 (fun b28 => ?_) (fun b28 => ?_)
              · have h := h.1 b28
                refine q_aload_n C 0 rfl rfl dX7_read_91 ?_
                refine q_get (v := .ref (rh a0 8)) C fX7_36 hk0 (if_neg (Int.not_lt.mpr r8)) dX7_read_92 (fun g29 => ?_)
                refine q_iconst C dX7_read_95 ?_
                obtain ⟨r30, h⟩ := h
                refine q_bald C hk0 rfl (fun _ q => q) r30 dX7_read_96 (fun g31 => ?_)
                have h := h g31
                refine q_bipush C (by decide) dX7_read_97 ?_
                refine q_icmp_ne (tgt := 106) C g31 (show rng 81 by decide) (by decide) dX7_read_99 (fun b32 => ?_) (fun b32 => ?_)
                · have h := h.1 b32
                  refine q_aload_n C 0 rfl rfl dX7_read_106 ?_
                  refine q_get (v := .ref (rh a0 8)) C fX7_36 hk0 (if_neg (Int.not_lt.mpr r8)) dX7_read_107 (fun g33 => ?_)
                  refine q_iconst C dX7_read_110 ?_
                  refine q_bald C hk0 rfl (fun _ q => q) r30 dX7_read_111 (fun g34 => ?_)
                  refine q_bipush C (by decide) dX7_read_112 ?_
                  refine q_icmp_ne (tgt := 121) C g31 (show rng 82 by decide) (by decide) dX7_read_114 (fun b35 => ?_) (fun b35 => ?_)
                  · have h := h.1 b35
                    refine q_aload_n C 0 rfl rfl dX7_read_121 ?_
                    refine q_get (v := .ref (rh a0 8)) C fX7_36 hk0 (if_neg (Int.not_lt.mpr r8)) dX7_read_122 (fun g36 => ?_)
                    refine q_iconst C dX7_read_125 ?_
                    refine q_bald C hk0 rfl (fun _ q => q) r30 dX7_read_126 (fun g37 => ?_)
                    refine q_bipush C (by decide) dX7_read_127 ?_
                    refine q_icmp_ne (tgt := 136) C g31 (show rng 80 by decide) (by decide) dX7_read_129 (fun b38 => ?_) (fun b38 => ?_)
                    · have h := h.1 b38
                      refine q_iconst C dX7_read_136 ?_
                      refine q_lv (lv' := [(0, .ref (gad a0))]) [0] rfl ?_
                      exact t137  (-1) (gu M2 a0 9 (-1) 0) h
                    · have h := h.2 b38
                      refine q_iconst C dX7_read_132 ?_
                      refine q_goto (tgt := 137) C (by decide) dX7_read_133 ?_
                      refine q_lv (lv' := [(0, .ref (gad a0))]) [0] rfl ?_
                      exact t137  2 (gu M2 a0 9 (-1) 0) h
                  · have h := h.2 b35
                    refine q_iconst C dX7_read_117 ?_
                    refine q_goto (tgt := 137) C (by decide) dX7_read_118 ?_
                    refine q_lv (lv' := [(0, .ref (gad a0))]) [0] rfl ?_
                    exact t137  1 (gu M2 a0 9 (-1) 0) h
                · have h := h.2 b32
                  refine q_iconst C dX7_read_102 ?_
                  refine q_goto (tgt := 137) C (by decide) dX7_read_103 ?_
                  refine q_lv (lv' := [(0, .ref (gad a0))]) [0] rfl ?_
                  exact t137  0 (gu M2 a0 9 (-1) 0) h
              · have h := h.2 b28
                refine q_iconst C dX7_read_89 ?_
                exact hret (-1) (gu M2 a0 9 (-1) 0) _ _ dX7_read_90 (show rng (-1) by decide) h
  · have h := h.2 b5
    refine q_bipush C (by decide) dX7_read_17 ?_
    exact hret (-2) M2 _ _ dX7_read_19 (show rng (-2) by decide) h
set_option maxHeartbeats 4000000 in
set_option maxRecDepth 100000 in
theorem mX7_tell (l : Launch) (D : va_G) (cy : Nat → ClassId) (kd : gKd) (ln : gLn) (rh : gRh) (post : gM → Prop) (a0 : Int) (a1 : Int) (M : gM) (hk0 : kd a0 = 7) (h : wX7_tell kd ln post a0 a1 M) : gMV l D cy yX7_tell cX7_tell 2 0 0 [.ref (gad a0), .int (gI a1)] kd ln rh M post := by
  refine gMV_of (own := RX7) (by decide) rfl (Nat.le_of_ble_eq_true rfl) ?_
  intro p e s m args below meth c A H0 Q C hret
  unfold wX7_tell at h
  refine q_aload_n C 0 rfl rfl dX7_tell_0 ?_
  obtain ⟨r1, h⟩ := h
  refine q_get (v := .ref (rh a0 10)) C fX7_39 hk0 (if_neg (Int.not_lt.mpr r1)) dX7_tell_1 (fun g2 => ?_)
  refine q_aload_n C 0 rfl rfl dX7_tell_4 ?_
  refine q_get (v := .int (gI (M a0 11 (-1)))) C fX7_217 hk0 rfl dX7_tell_5 (fun g3 => ?_)
  have h := h g3
  refine q_iload_n C 1 rfl rfl dX7_tell_8 ?_
  refine q_i2b C dX7_tell_9 ?_
  obtain ⟨r4, h⟩ := h
  obtain ⟨r5, h⟩ := h
  refine q_bast C hk0 rfl (⟨by omega, by omega⟩ : rng _) r5 r4 dX7_tell_10 ?_
  refine q_aload_n C 0 rfl rfl dX7_tell_11 ?_
  refine q_dup C rfl dX7_tell_12 ?_
  refine q_get (v := .int (gI ((gu M a0 10 (M a0 11 (-1)) (gi2b a1)) a0 11 (-1)))) C fX7_217 hk0 rfl dX7_tell_13 (fun g6 => ?_)
  have h := h g6
  refine q_iconst C dX7_tell_16 ?_
  refine q_iadd C dX7_tell_17 ?_
  obtain ⟨r7, h⟩ := h
  refine q_put (x := (((gu M a0 10 (M a0 11 (-1)) (gi2b a1)) a0 11 (-1)) + 1)) (ty := .int) C fX7_217 hk0 (fun _ _ _ q => by cases q; rfl) (congrArg (fun z => Value.int (gI z)) gu_s) rfl rfl r7 dX7_tell_18 ?_
  exact hret (gu (gu M a0 10 (M a0 11 (-1)) (gi2b a1)) a0 11 (-1) (((gu M a0 10 (M a0 11 (-1)) (gi2b a1)) a0 11 (-1)) + 1)) _ _ dX7_tell_21 h
set_option maxHeartbeats 4000000 in
set_option maxRecDepth 100000 in
theorem mX7_tellSquare (l : Launch) (D : va_G) (cy : Nat → ClassId) (kd : gKd) (ln : gLn) (rh : gRh) (post : gM → Prop) (a0 : Int) (a1 : Int) (M : gM) (hk0 : kd a0 = 7) (h : wX7_tellSquare kd ln post a0 a1 M) : gMV l D cy yX7_tellSquare cX7_tellSquare 2 1 21 [.ref (gad a0), .int (gI a1)] kd ln rh M post := by
  refine gMV_of (own := RX7) (by decide) rfl (Nat.le_of_ble_eq_true rfl) ?_
  intro p e s m args below meth c A H0 Q C hret
  unfold wX7_tellSquare at h
  refine q_aload_n C 0 rfl rfl dX7_tellSquare_0 ?_
  refine q_bipush C (by decide) dX7_tellSquare_1 ?_
  refine q_iload_n C 1 rfl rfl dX7_tellSquare_3 ?_
  refine q_aload_n C 0 rfl rfl dX7_tellSquare_4 ?_
  refine q_get (v := .int (gI (M a0 1 (-1)))) C fX7_7 hk0 rfl dX7_tellSquare_5 (fun g1 => ?_)
  have h := h g1
  obtain ⟨r2, h⟩ := h
  refine q_irem C r2 dX7_tellSquare_8 ?_
  refine q_iadd C dX7_tellSquare_9 ?_
  refine q_callVV (As := [.int (gI (97 + (a1 % (M a0 1 (-1)))))]) (st := []) C vX7_220 kX7_tell ⟨Nat.le_refl _, Nat.le_refl _⟩ ⟨by decide, by decide⟩ rfl hk0 ⟨_, _, rfl⟩ (by decide) rfl (Nat.le_of_ble_eq_true rfl) (mX7_tell l D cy kd ln rh _ a0 (97 + (a1 % (M a0 1 (-1)))) M hk0 h) dX7_tellSquare_10 (fun M3 h => ?_)
  refine q_aload_n C 0 rfl rfl dX7_tellSquare_13 ?_
  refine q_bipush C (by decide) dX7_tellSquare_14 ?_
  refine q_iload_n C 1 rfl rfl dX7_tellSquare_16 ?_
  refine q_aload_n C 0 rfl rfl dX7_tellSquare_17 ?_
  refine q_get (v := .int (gI (M3 a0 1 (-1)))) C fX7_7 hk0 rfl dX7_tellSquare_18 (fun g6 => ?_)
  have h := h g6
  obtain ⟨r7, h⟩ := h
  refine q_idiv C r7 dX7_tellSquare_21 ?_
  refine q_iadd C dX7_tellSquare_22 ?_
  refine q_callVV (As := [.int (gI (49 + (a1 / (M3 a0 1 (-1)))))]) (st := []) C vX7_220 kX7_tell ⟨Nat.le_refl _, Nat.le_refl _⟩ ⟨by decide, by decide⟩ rfl hk0 ⟨_, _, rfl⟩ (by decide) rfl (Nat.le_of_ble_eq_true rfl) (mX7_tell l D cy kd ln rh _ a0 (49 + (a1 / (M3 a0 1 (-1)))) M3 hk0 h) dX7_tellSquare_23 (fun M8 h => ?_)
  exact hret M8 _ _ dX7_tellSquare_26 h
set_option maxHeartbeats 4000000 in
set_option maxRecDepth 100000 in
theorem mX7_show (l : Launch) (D : va_G) (cy : Nat → ClassId) (kd : gKd) (ln : gLn) (rh : gRh) (post : Int → gM → Prop) (a0 : Int) (a1 : Int) (a2 : Int) (a3 : Int) (a4 : Int) (a5 : Int) (M : gM) (hk0 : kd a0 = 7) (h : wX7_show kd ln post a0 a1 a2 a3 a4 a5 M) : gMI l D cy yX7_show cX7_show 6 .int 4 100 [.ref (gad a0), .int (gI a1), .int (gI a2), .int (gI a3), .int (gI a4), .int (gI a5)] kd ln rh M post := by
  refine gMI_of (own := RX7) (by decide) rfl (Nat.le_of_ble_eq_true rfl) ?_
  intro p e s m args below meth c A H0 Q C hret
  have t124 : ∀ (y0 : Int) (M : gM), wX7_show_124 kd ln post a0 a1 a2 a3 a4 a5 y0 M → gW p l e (gRm 4 100) s m args below meth c D cy A H0 Q 6 kd ln rh 0 0 M 124 [(0, .ref (gad a0))] [.int (gI y0), .ref (gad a0)] := by
    intro  y0 M h
    unfold wX7_show_124 at h
    refine q_callVV (As := [.int (gI y0)]) (st := []) C vX7_220 kX7_tell ⟨Nat.le_refl _, Nat.le_refl _⟩ ⟨by decide, by decide⟩ rfl hk0 ⟨_, _, rfl⟩ (by decide) rfl (Nat.le_of_ble_eq_true rfl) (mX7_tell l D cy kd ln rh _ a0 y0 M hk0 h) dX7_show_124 (fun M41 h => ?_)
    refine q_aload_n C 0 rfl rfl dX7_show_127 ?_
    refine q_get (v := .int (gI (M41 a0 11 (-1)))) C fX7_217 hk0 rfl dX7_show_128 (fun g44 => ?_)
    have h := h g44
    exact hret (M41 a0 11 (-1)) M41 _ _ dX7_show_131 g44 h
  have t79 : ∀ (y0 : Int) (M : gM), wX7_show_79 kd ln post a0 a1 a2 a3 a4 a5 y0 M → gW p l e (gRm 4 100) s m args below meth c D cy A H0 Q 6 kd ln rh 0 0 M 79 [(0, .ref (gad a0)), (3, .int (gI a3)), (4, .int (gI a4)), (5, .int (gI a5))] [.int (gI y0), .ref (gad a0)] := by
    intro  y0 M h
    unfold wX7_show_79 at h
    refine q_callVV (As := [.int (gI y0)]) (st := []) C vX7_220 kX7_tell ⟨Nat.le_refl _, Nat.le_refl _⟩ ⟨by decide, by decide⟩ rfl hk0 ⟨_, _, rfl⟩ (by decide) rfl (Nat.le_of_ble_eq_true rfl) (mX7_tell l D cy kd ln rh _ a0 y0 M hk0 h) dX7_show_79 (fun M21 h => ?_)
    refine q_aload_n C 0 rfl rfl dX7_show_82 ?_
    refine q_iload C 2 rfl dX7_show_83 ?_
    refine q_callVV (As := [.int (gI a4)]) (st := []) C vX7_223 kX7_tellSquare ⟨Nat.le_refl _, Nat.le_refl _⟩ ⟨by decide, by decide⟩ rfl hk0 ⟨_, _, rfl⟩ (by decide) rfl (Nat.le_of_ble_eq_true rfl) (mX7_tellSquare l D cy kd ln rh _ a0 a4 M21 hk0 h) dX7_show_85 (fun M24 h => ?_)
    refine q_aload_n C 0 rfl rfl dX7_show_88 ?_
    refine q_bipush C (by decide) dX7_show_89 ?_
    refine q_callVV (As := [.int (gI 32)]) (st := []) C vX7_220 kX7_tell ⟨Nat.le_refl _, Nat.le_refl _⟩ ⟨by decide, by decide⟩ rfl hk0 ⟨_, _, rfl⟩ (by decide) rfl (Nat.le_of_ble_eq_true rfl) (mX7_tell l D cy kd ln rh _ a0 32 M24 hk0 h) dX7_show_91 (fun M27 h => ?_)
    refine q_aload_n C 0 rfl rfl dX7_show_94 ?_
    refine q_bipush C (by decide) dX7_show_95 ?_
    refine q_callVV (As := [.int (gI 107)]) (st := []) C vX7_220 kX7_tell ⟨Nat.le_refl _, Nat.le_refl _⟩ ⟨by decide, by decide⟩ rfl hk0 ⟨_, _, rfl⟩ (by decide) rfl (Nat.le_of_ble_eq_true rfl) (mX7_tell l D cy kd ln rh _ a0 107 M27 hk0 h) dX7_show_97 (fun M30 h => ?_)
    refine q_aload_n C 0 rfl rfl dX7_show_100 ?_
    refine q_iload_n C 1 rfl rfl dX7_show_101 ?_
    refine q_callVV (As := [.int (gI a3)]) (st := []) C vX7_223 kX7_tellSquare ⟨Nat.le_refl _, Nat.le_refl _⟩ ⟨by decide, by decide⟩ rfl hk0 ⟨_, _, rfl⟩ (by decide) rfl (Nat.le_of_ble_eq_true rfl) (mX7_tellSquare l D cy kd ln rh _ a0 a3 M30 hk0 h) dX7_show_102 (fun M33 h => ?_)
    refine q_aload_n C 0 rfl rfl dX7_show_105 ?_
    refine q_bipush C (by decide) dX7_show_106 ?_
    refine q_callVV (As := [.int (gI 32)]) (st := []) C vX7_220 kX7_tell ⟨Nat.le_refl _, Nat.le_refl _⟩ ⟨by decide, by decide⟩ rfl hk0 ⟨_, _, rfl⟩ (by decide) rfl (Nat.le_of_ble_eq_true rfl) (mX7_tell l D cy kd ln rh _ a0 32 M33 hk0 h) dX7_show_108 (fun M36 h => ?_)
    refine q_aload_n C 0 rfl rfl dX7_show_111 ?_
    refine q_iload C 3 rfl dX7_show_112 ?_
    obtain ⟨r39, h⟩ := h
    refine q_if_ne (tgt := 122) C r39 (by decide) dX7_show_114 (fun b40 => ?_) (fun b40 => ?_)
    · have h := h.1 b40
      refine q_bipush C (by decide) dX7_show_122 ?_
      refine q_lv (lv' := [(0, .ref (gad a0))]) [0] rfl ?_
      exact t124  98 M36 h
    · have h := h.2 b40
      refine q_bipush C (by decide) dX7_show_117 ?_
      refine q_goto (tgt := 124) C (by decide) dX7_show_119 ?_
      refine q_lv (lv' := [(0, .ref (gad a0))]) [0] rfl ?_
      exact t124  119 M36 h
  unfold wX7_show at h
  refine q_aload_n C 0 rfl rfl dX7_show_0 ?_
  refine q_iconst C dX7_show_1 ?_
  refine q_put (x := 0) (ty := .int) C fX7_81 hk0 (fun _ _ _ q => by cases q; rfl) (congrArg (fun z => Value.int (gI z)) gu_s) rfl rfl (show rng 0 by decide) dX7_show_2 ?_
  refine q_aload_n C 0 rfl rfl dX7_show_5 ?_
  refine q_iload_n C 1 rfl rfl dX7_show_6 ?_
  refine q_iload_n C 2 rfl rfl dX7_show_7 ?_
  refine q_iload_n C 3 rfl rfl dX7_show_8 ?_
  refine q_iload C 4 rfl dX7_show_9 ?_
  refine q_iload C 5 rfl dX7_show_11 ?_
  refine q_callVI (As := [.int (gI a1), .int (gI a2), .int (gI a3), .int (gI a4), .int (gI a5)]) (st := []) C vX7_183 kX7_areNumbers ⟨Nat.le_refl _, Nat.le_refl _⟩ ⟨by decide, by decide⟩ rfl hk0 ⟨_, _, rfl⟩ (by decide) rfl (Nat.le_of_ble_eq_true rfl) (mX7_areNumbers l D cy kd ln rh _ a0 a1 a2 a3 a4 a5 (gu M a0 0 (-1) 0) hk0 h) dX7_show_13 (fun c2 M1 g3 h => ?_)
  have h := h g3
  refine q_if_eq (tgt := 33) C g3 (by decide) dX7_show_16 (fun b4 => ?_) (fun b4 => ?_)
  · have h := h.1 b4
    refine q_iconst C dX7_show_33 ?_
    exact hret (-1) M1 _ _ dX7_show_34 (show rng (-1) by decide) h
  · have h := h.2 b4
    refine q_aload_n C 0 rfl rfl dX7_show_19 ?_
    refine q_iload_n C 1 rfl rfl dX7_show_20 ?_
    refine q_iload_n C 2 rfl rfl dX7_show_21 ?_
    refine q_iload_n C 3 rfl rfl dX7_show_22 ?_
    refine q_iload C 4 rfl dX7_show_23 ?_
    refine q_iload C 5 rfl dX7_show_25 ?_
    refine q_callVI (As := [.int (gI a1), .int (gI a2), .int (gI a3), .int (gI a4), .int (gI a5)]) (st := []) C vX7_107 kX7_legal ⟨Nat.le_refl _, Nat.le_refl _⟩ ⟨by decide, by decide⟩ rfl hk0 ⟨_, _, rfl⟩ (by decide) rfl (Nat.le_of_ble_eq_true rfl) (mX7_legal l D cy kd ln rh _ a0 a1 a2 a3 a4 a5 M1 hk0 h) dX7_show_27 (fun c6 M5 g7 h => ?_)
    have h := h g7
    refine q_if_ne (tgt := 35) C g7 (by decide) dX7_show_30 (fun b8 => ?_) (fun b8 => ?_)
    · have h := h.1 b8
      refine q_aload_n C 0 rfl rfl dX7_show_35 ?_
      refine q_iconst C dX7_show_36 ?_
      refine q_put (x := 0) (ty := .int) C fX7_217 hk0 (fun _ _ _ q => by cases q; rfl) (congrArg (fun z => Value.int (gI z)) gu_s) rfl rfl (show rng 0 by decide) dX7_show_37 ?_
      refine q_aload_n C 0 rfl rfl dX7_show_40 ?_
      refine q_bipush C (by decide) dX7_show_41 ?_
      refine q_callVV (As := [.int (gI 75)]) (st := []) C vX7_220 kX7_tell ⟨Nat.le_refl _, Nat.le_refl _⟩ ⟨by decide, by decide⟩ rfl hk0 ⟨_, _, rfl⟩ (by decide) rfl (Nat.le_of_ble_eq_true rfl) (mX7_tell l D cy kd ln rh _ a0 75 (gu M5 a0 11 (-1) 0) hk0 h) dX7_show_43 (fun M9 h => ?_)
      refine q_aload_n C 0 rfl rfl dX7_show_46 ?_
      refine q_iload_n C 2 rfl rfl dX7_show_47 ?_
      refine q_callVV (As := [.int (gI a2)]) (st := []) C vX7_223 kX7_tellSquare ⟨Nat.le_refl _, Nat.le_refl _⟩ ⟨by decide, by decide⟩ rfl hk0 ⟨_, _, rfl⟩ (by decide) rfl (Nat.le_of_ble_eq_true rfl) (mX7_tellSquare l D cy kd ln rh _ a0 a2 M9 hk0 h) dX7_show_48 (fun M12 h => ?_)
      refine q_aload_n C 0 rfl rfl dX7_show_51 ?_
      refine q_bipush C (by decide) dX7_show_52 ?_
      refine q_callVV (As := [.int (gI 32)]) (st := []) C vX7_220 kX7_tell ⟨Nat.le_refl _, Nat.le_refl _⟩ ⟨by decide, by decide⟩ rfl hk0 ⟨_, _, rfl⟩ (by decide) rfl (Nat.le_of_ble_eq_true rfl) (mX7_tell l D cy kd ln rh _ a0 32 M12 hk0 h) dX7_show_54 (fun M15 h => ?_)
      refine q_aload_n C 0 rfl rfl dX7_show_57 ?_
      refine q_iload_n C 1 rfl rfl dX7_show_58 ?_
      obtain ⟨r18, h⟩ := h
      refine q_if_ne (tgt := 67) C r18 (by decide) dX7_show_59 (fun b19 => ?_) (fun b19 => ?_)
      · have h := h.1 b19
        refine q_iload_n C 1 rfl rfl dX7_show_67 ?_
        refine q_iconst C dX7_show_68 ?_
        refine q_icmp_ne (tgt := 77) C r18 (show rng 1 by decide) (by decide) dX7_show_69 (fun b20 => ?_) (fun b20 => ?_)
        · have h := h.1 b20
          refine q_bipush C (by decide) dX7_show_77 ?_
          refine q_lv (lv' := [(0, .ref (gad a0)), (3, .int (gI a3)), (4, .int (gI a4)), (5, .int (gI a5))]) [0, 3, 4, 5] rfl ?_
          exact t79  80 M15 h
        · have h := h.2 b20
          refine q_bipush C (by decide) dX7_show_72 ?_
          refine q_goto (tgt := 79) C (by decide) dX7_show_74 ?_
          refine q_lv (lv' := [(0, .ref (gad a0)), (3, .int (gI a3)), (4, .int (gI a4)), (5, .int (gI a5))]) [0, 3, 4, 5] rfl ?_
          exact t79  82 M15 h
      · have h := h.2 b19
        refine q_bipush C (by decide) dX7_show_62 ?_
        refine q_goto (tgt := 79) C (by decide) dX7_show_64 ?_
        refine q_lv (lv' := [(0, .ref (gad a0)), (3, .int (gI a3)), (4, .int (gI a4)), (5, .int (gI a5))]) [0, 3, 4, 5] rfl ?_
        exact t79  81 M15 h
    · have h := h.2 b8
      refine q_iconst C dX7_show_33 ?_
      exact hret (-1) M5 _ _ dX7_show_34 (show rng (-1) by decide) h
set_option maxHeartbeats 4000000 in
set_option maxRecDepth 100000 in
theorem mX7_thrown (l : Launch) (D : va_G) (cy : Nat → ClassId) (kd : gKd) (ln : gLn) (rh : gRh) (post : Int → gM → Prop) (a0 : Int) (M : gM) (hk0 : kd a0 = 7) (h : wX7_thrown kd ln post a0 M) : gMI l D cy yX7_thrown cX7_thrown 1 .int 0 0 [.ref (gad a0)] kd ln rh M post := by
  refine gMI_of (own := RX7) (by decide) rfl (Nat.le_of_ble_eq_true rfl) ?_
  intro p e s m args below meth c A H0 Q C hret
  unfold wX7_thrown at h
  refine q_aload_n C 0 rfl rfl dX7_thrown_0 ?_
  refine q_get (v := .int (gI (M a0 0 (-1)))) C fX7_81 hk0 rfl dX7_thrown_1 (fun g1 => ?_)
  have h := h g1
  exact hret (M a0 0 (-1)) M _ _ dX7_thrown_4 g1 h
