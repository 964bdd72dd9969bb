set_option maxHeartbeats 4000000 in
set_option maxRecDepth 100000 in
theorem mX7_find (l : Launch) (D : va_G) (cy : Nat → ClassId) (kd : gKd) (ln : gLn) (rh : gRh) (post : gM → Prop) (a0 : Int) (a1 : Int) (a2 : Int) (a3 : Int) (a4 : Int) (a5 : Int) (M : gM) (hk0 : kd a0 = 7) (h : wX7_find kd ln post a0 a1 a2 a3 a4 a5 M) : gMV l D cy yX7_find cX7_find 10 4 100 [.ref (gad a0), .int (gI a1), .int (gI a2), .int (gI a3), .int (gI a4), .int (gI a5)] kd ln rh M post := by
  refine gMV_of (own := RX7) (by decide) rfl (Nat.le_of_ble_eq_true rfl) ?_
  intro p e s m args below meth c A H0 Q C hret
  have t199 : ∀ (k20 : Int → Int → gM → Prop), (∀ (x6 : Int), ∀ (x7 : Int), ∀ (M : gM), k20 x6 x7 M → gW p l e (gRm 4 100) s m args below meth c D cy A H0 Q 10 kd ln rh 0 0 M 20 [(0, .ref (gad a0)), (1, .int (gI a1)), (2, .int (gI a2)), (3, .int (gI a3)), (4, .int (gI a4)), (5, .int (gI a5)), (6, .int (gI x6)), (7, .int (gI x7))] []) → ∀ (k29 : Int → Int → Int → gM → Prop), (∀ (x6 : Int), ∀ (x7 : Int), ∀ (x8 : Int), ∀ (M : gM), k29 x6 x7 x8 M → gW p l e (gRm 4 100) s m args below meth c D cy A H0 Q 10 kd ln rh 0 0 M 29 [(0, .ref (gad a0)), (1, .int (gI a1)), (2, .int (gI a2)), (3, .int (gI a3)), (4, .int (gI a4)), (5, .int (gI a5)), (6, .int (gI x6)), (7, .int (gI x7)), (8, .int (gI x8))] []) → ∀ (x6 : Int) (x7 : Int) (x8 : Int) (M : gM), wX7_find_199 kd ln post a0 a1 a2 a3 a4 a5 k20 k29 x6 x7 x8 M → gW p l e (gRm 4 100) s m args below meth c D cy A H0 Q 10 kd ln rh 0 0 M 199 [(0, .ref (gad a0)), (1, .int (gI a1)), (2, .int (gI a2)), (3, .int (gI a3)), (4, .int (gI a4)), (5, .int (gI a5)), (6, .int (gI x6)), (7, .int (gI x7)), (8, .int (gI x8))] [] := by
    intro k20 hk20_ k29 hk29_ x6 x7 x8 M h
    unfold wX7_find_199 at h
    refine q_iinc (lv' := [(8, .int (gI (x8 + 1))), (0, .ref (gad a0)), (1, .int (gI a1)), (2, .int (gI a2)), (3, .int (gI a3)), (4, .int (gI a4)), (5, .int (gI a5)), (6, .int (gI x6)), (7, .int (gI x7))]) C 8 rfl (by decide) rfl dX7_find_199 ?_
    refine q_goto (tgt := 29) C (by decide) dX7_find_202 ?_
    refine q_lv (lv' := [(0, .ref (gad a0)), (1, .int (gI a1)), (2, .int (gI a2)), (3, .int (gI a3)), (4, .int (gI a4)), (5, .int (gI a5)), (6, .int (gI x6)), (7, .int (gI x7)), (8, .int (gI (x8 + 1)))]) [1, 2, 3, 4, 5, 6, 7, 8, 0] rfl ?_
    exact hk29_ x6 x7 (x8 + 1) M h
  have t158 : ∀ (k20 : Int → Int → gM → Prop), (∀ (x6 : Int), ∀ (x7 : Int), ∀ (M : gM), k20 x6 x7 M → gW p l e (gRm 4 100) s m args below meth c D cy A H0 Q 10 kd ln rh 0 0 M 20 [(0, .ref (gad a0)), (1, .int (gI a1)), (2, .int (gI a2)), (3, .int (gI a3)), (4, .int (gI a4)), (5, .int (gI a5)), (6, .int (gI x6)), (7, .int (gI x7))] []) → ∀ (k29 : Int → Int → Int → gM → Prop), (∀ (x6 : Int), ∀ (x7 : Int), ∀ (x8 : Int), ∀ (M : gM), k29 x6 x7 x8 M → gW p l e (gRm 4 100) s m args below meth c D cy A H0 Q 10 kd ln rh 0 0 M 29 [(0, .ref (gad a0)), (1, .int (gI a1)), (2, .int (gI a2)), (3, .int (gI a3)), (4, .int (gI a4)), (5, .int (gI a5)), (6, .int (gI x6)), (7, .int (gI x7)), (8, .int (gI x8))] []) → ∀ (x6 : Int) (x7 : Int) (x8 : Int) (x9 : Int) (M : gM), wX7_find_158 kd ln post a0 a1 a2 a3 a4 a5 k20 k29 x6 x7 x8 x9 M → gW p l e (gRm 4 100) s m args below meth c D cy A H0 Q 10 kd ln rh 0 0 M 158 [(0, .ref (gad a0)), (1, .int (gI a1)), (2, .int (gI a2)), (3, .int (gI a3)), (4, .int (gI a4)), (5, .int (gI a5)), (6, .int (gI x6)), (7, .int (gI x7)), (8, .int (gI x8)), (9, .int (gI x9))] [] := by
    intro k20 hk20_ k29 hk29_ x6 x7 x8 x9 M h
    unfold wX7_find_158 at h
    refine q_iload C 5 rfl dX7_find_158 ?_
    refine q_iconst C dX7_find_160 ?_
    obtain ⟨r43, h⟩ := h
    refine q_icmp_ne (tgt := 199) C r43 (show rng 1 by decide) (by decide) dX7_find_161 (fun b44 => ?_) (fun b44 => ?_)
    · have h := h.1 b44
      refine q_lv (lv' := [(0, .ref (gad a0)), (1, .int (gI a1)), (2, .int (gI a2)), (3, .int (gI a3)), (4, .int (gI a4)), (5, .int (gI a5)), (6, .int (gI x6)), (7, .int (gI x7)), (8, .int (gI x8))]) [0, 1, 2, 3, 4, 5, 6, 7, 8] rfl ?_
      exact t199 k20 hk20_ k29 hk29_ x6 x7 x8 M h
    · have h := h.2 b44
      refine q_iload C 9 rfl dX7_find_164 ?_
      refine q_iload C 4 rfl dX7_find_166 ?_
      obtain ⟨r45, h⟩ := h
      obtain ⟨r46, h⟩ := h
      refine q_icmp_eq (tgt := 199) C r45 r46 (by decide) dX7_find_168 (fun b47 => ?_) (fun b47 => ?_)
      · have h := h.1 b47
        refine q_lv (lv' := [(0, .ref (gad a0)), (1, .int (gI a1)), (2, .int (gI a2)), (3, .int (gI a3)), (4, .int (gI a4)), (5, .int (gI a5)), (6, .int (gI x6)), (7, .int (gI x7)), (8, .int (gI x8))]) [0, 1, 2, 3, 4, 5, 6, 7, 8] rfl ?_
        exact t199 k20 hk20_ k29 hk29_ x6 x7 x8 M h
      · have h := h.2 b47
        refine q_aload_n C 0 rfl rfl dX7_find_171 ?_
        refine q_iload_n C 1 rfl rfl dX7_find_172 ?_
        refine q_iload_n C 2 rfl rfl dX7_find_173 ?_
        refine q_iload C 9 rfl dX7_find_174 ?_
        refine q_iload C 4 rfl dX7_find_176 ?_
        refine q_iconst C dX7_find_178 ?_
        refine q_callVI (As := [.int (gI a1), .int (gI a2), .int (gI x9), .int (gI a4), .int (gI 0)]) (st := []) C vX7_107 kX7_legal ⟨Nat.le_of_ble_eq_true rfl, Nat.le_of_ble_eq_true rfl⟩ ⟨Nat.le_of_ble_eq_true rfl, Nat.le_of_ble_eq_true rfl⟩ rfl hk0 ⟨_, _, rfl⟩ (by decide) rfl (Nat.le_of_ble_eq_true rfl) (mX7_legal l D cy kd ln rh _ a0 a1 a2 x9 a4 0 M hk0 h) dX7_find_179 (fun c49 M48 g50 h => ?_)
        have h := h g50
        refine q_if_eq (tgt := 199) C g50 (by decide) dX7_find_182 (fun b51 => ?_) (fun b51 => ?_)
        · have h := h.1 b51
          refine q_lv (lv' := [(0, .ref (gad a0)), (1, .int (gI a1)), (2, .int (gI a2)), (3, .int (gI a3)), (4, .int (gI a4)), (5, .int (gI a5)), (6, .int (gI x6)), (7, .int (gI x7)), (8, .int (gI x8))]) [0, 1, 2, 3, 4, 5, 6, 7, 8] rfl ?_
          exact t199 k20 hk20_ k29 hk29_ x6 x7 x8 M48 h
        · have h := h.2 b51
          refine q_aload_n C 0 rfl rfl dX7_find_185 ?_
          refine q_iload_n C 3 rfl rfl dX7_find_186 ?_
          refine q_iload C 9 rfl dX7_find_187 ?_
          refine q_iconst C dX7_find_189 ?_
          refine q_iload_n C 1 rfl rfl dX7_find_190 ?_
          refine q_iload_n C 2 rfl rfl dX7_find_191 ?_
          refine q_iload C 9 rfl dX7_find_192 ?_
          refine q_iload C 4 rfl dX7_find_194 ?_
          refine q_callVV (As := [.int (gI a3), .int (gI x9), .int (gI (-1)), .int (gI a1), .int (gI a2), .int (gI x9), .int (gI a4)]) (st := []) C vX7_110 kX7_add ⟨Nat.le_of_ble_eq_true rfl, Nat.le_of_ble_eq_true rfl⟩ ⟨Nat.le_of_ble_eq_true rfl, Nat.le_of_ble_eq_true rfl⟩ rfl hk0 ⟨_, _, rfl⟩ (by decide) rfl (Nat.le_of_ble_eq_true rfl) (mX7_add l D cy kd ln rh _ a0 a3 x9 (-1) a1 a2 x9 a4 M48 hk0 h) dX7_find_196 (fun M52 h => ?_)
          refine q_lv (lv' := [(0, .ref (gad a0)), (1, .int (gI a1)), (2, .int (gI a2)), (3, .int (gI a3)), (4, .int (gI a4)), (5, .int (gI a5)), (6, .int (gI x6)), (7, .int (gI x7)), (8, .int (gI x8))]) [0, 1, 2, 3, 4, 5, 6, 7, 8] rfl ?_
          exact t199 k20 hk20_ k29 hk29_ x6 x7 x8 M52 h
  have t122 : ∀ (k20 : Int → Int → gM → Prop), (∀ (x6 : Int), ∀ (x7 : Int), ∀ (M : gM), k20 x6 x7 M → gW p l e (gRm 4 100) s m args below meth c D cy A H0 Q 10 kd ln rh 0 0 M 20 [(0, .ref (gad a0)), (1, .int (gI a1)), (2, .int (gI a2)), (3, .int (gI a3)), (4, .int (gI a4)), (5, .int (gI a5)), (6, .int (gI x6)), (7, .int (gI x7))] []) → ∀ (k29 : Int → Int → Int → gM → Prop), (∀ (x6 : Int), ∀ (x7 : Int), ∀ (x8 : Int), ∀ (M : gM), k29 x6 x7 x8 M → gW p l e (gRm 4 100) s m args below meth c D cy A H0 Q 10 kd ln rh 0 0 M 29 [(0, .ref (gad a0)), (1, .int (gI a1)), (2, .int (gI a2)), (3, .int (gI a3)), (4, .int (gI a4)), (5, .int (gI a5)), (6, .int (gI x6)), (7, .int (gI x7)), (8, .int (gI x8))] []) → ∀ (x6 : Int) (x7 : Int) (x8 : Int) (x9 : Int) (M : gM), wX7_find_122 kd ln post a0 a1 a2 a3 a4 a5 k20 k29 x6 x7 x8 x9 M → gW p l e (gRm 4 100) s m args below meth c D cy A H0 Q 10 kd ln rh 0 0 M 122 [(0, .ref (gad a0)), (1, .int (gI a1)), (2, .int (gI a2)), (3, .int (gI a3)), (4, .int (gI a4)), (5, .int (gI a5)), (6, .int (gI x6)), (7, .int (gI x7)), (8, .int (gI x8)), (9, .int (gI x9))] [] := by
    intro k20 hk20_ k29 hk29_ x6 x7 x8 x9 M h
    unfold wX7_find_122 at h
    refine q_iload C 5 rfl dX7_find_122 ?_
    refine q_iconst C dX7_find_124 ?_
    obtain ⟨r31, h⟩ := h
    refine q_icmp_ne (tgt := 158) C r31 (show rng 1 by decide) (by decide) dX7_find_125 (fun b32 => ?_) (fun b32 => ?_)
    · have h := h.1 b32
      exact t158 k20 hk20_ k29 hk29_ x6 x7 x8 x9 M h
    · have h := h.2 b32
      refine q_iload C 9 rfl dX7_find_128 ?_
      refine q_iload C 4 rfl dX7_find_130 ?_
      obtain ⟨r33, h⟩ := h
      obtain ⟨r34, h⟩ := h
      refine q_icmp_ne (tgt := 158) C r33 r34 (by decide) dX7_find_132 (fun b35 => ?_) (fun b35 => ?_)
      · have h := h.1 b35
        exact t158 k20 hk20_ k29 hk29_ x6 x7 x8 x9 M h
      · have h := h.2 b35
        refine q_aload_n C 0 rfl rfl dX7_find_135 ?_
        refine q_iload C 9 rfl dX7_find_136 ?_
        refine q_iload_n C 2 rfl rfl dX7_find_138 ?_
        refine q_callVI (As := [.int (gI x9), .int (gI a2)]) (st := []) C vX7_96 kX7_isNext ⟨Nat.le_of_ble_eq_true rfl, Nat.le_of_ble_eq_true rfl⟩ ⟨Nat.le_of_ble_eq_true rfl, Nat.le_of_ble_eq_true rfl⟩ rfl hk0 ⟨_, _, rfl⟩ (by decide) rfl (Nat.le_of_ble_eq_true rfl) (mX7_isNext l D cy kd ln rh _ a0 x9 a2 M hk0 h) dX7_find_139 (fun c37 M36 g38 h => ?_)
        have h := h g38
        refine q_if_ne (tgt := 158) C g38 (by decide) dX7_find_142 (fun b39 => ?_) (fun b39 => ?_)
        · have h := h.1 b39
          exact t158 k20 hk20_ k29 hk29_ x6 x7 x8 x9 M36 h
        · have h := h.2 b39
          refine q_aload_n C 0 rfl rfl dX7_find_145 ?_
          refine q_iload_n C 3 rfl rfl dX7_find_146 ?_
          refine q_iload C 9 rfl dX7_find_147 ?_
          refine q_iconst C dX7_find_149 ?_
          refine q_iconst C dX7_find_150 ?_
          refine q_iload_n C 2 rfl rfl dX7_find_151 ?_
          refine q_iload C 9 rfl dX7_find_152 ?_
          refine q_iconst C dX7_find_154 ?_
          refine q_callVV (As := [.int (gI a3), .int (gI x9), .int (gI (-1)), .int (gI (-1)), .int (gI a2), .int (gI x9), .int (gI (-1))]) (st := []) C vX7_110 kX7_add ⟨Nat.le_of_ble_eq_true rfl, Nat.le_of_ble_eq_true rfl⟩ ⟨Nat.le_of_ble_eq_true rfl, Nat.le_of_ble_eq_true rfl⟩ rfl hk0 ⟨_, _, rfl⟩ (by decide) rfl (Nat.le_of_ble_eq_true rfl) (mX7_add l D cy kd ln rh _ a0 a3 x9 (-1) (-1) a2 x9 (-1) M36 hk0 h) dX7_find_155 (fun M40 h => ?_)
          exact t158 k20 hk20_ k29 hk29_ x6 x7 x8 x9 M40 h
  have t59 : ∀ (k20 : Int → Int → gM → Prop), (∀ (x6 : Int), ∀ (x7 : Int), ∀ (M : gM), k20 x6 x7 M → gW p l e (gRm 4 100) s m args below meth c D cy A H0 Q 10 kd ln rh 0 0 M 20 [(0, .ref (gad a0)), (1, .int (gI a1)), (2, .int (gI a2)), (3, .int (gI a3)), (4, .int (gI a4)), (5, .int (gI a5)), (6, .int (gI x6)), (7, .int (gI x7))] []) → ∀ (k29 : Int → Int → Int → gM → Prop), (∀ (x6 : Int), ∀ (x7 : Int), ∀ (x8 : Int), ∀ (M : gM), k29 x6 x7 x8 M → gW p l e (gRm 4 100) s m args below meth c D cy A H0 Q 10 kd ln rh 0 0 M 29 [(0, .ref (gad a0)), (1, .int (gI a1)), (2, .int (gI a2)), (3, .int (gI a3)), (4, .int (gI a4)), (5, .int (gI a5)), (6, .int (gI x6)), (7, .int (gI x7)), (8, .int (gI x8))] []) → ∀ (x6 : Int) (x7 : Int) (x8 : Int) (y0 : Int) (M : gM), wX7_find_59 kd ln post a0 a1 a2 a3 a4 a5 k20 k29 x6 x7 x8 y0 M → gW p l e (gRm 4 100) s m args below meth c D cy A H0 Q 10 kd ln rh 0 0 M 59 [(0, .ref (gad a0)), (1, .int (gI a1)), (2, .int (gI a2)), (3, .int (gI a3)), (4, .int (gI a4)), (5, .int (gI a5)), (6, .int (gI x6)), (7, .int (gI x7)), (8, .int (gI x8))] [.int (gI y0)] := by
    intro k20 hk20_ k29 hk29_ x6 x7 x8 y0 M h
    unfold wX7_find_59 at h
    refine q_istore (lv' := [(9, .int (gI y0)), (0, .ref (gad a0)), (1, .int (gI a1)), (2, .int (gI a2)), (3, .int (gI a3)), (4, .int (gI a4)), (5, .int (gI a5)), (6, .int (gI x6)), (7, .int (gI x7)), (8, .int (gI x8))]) C (by decide) rfl dX7_find_59 ?_
    refine q_iload C 0 rfl dX7_find_61 ?_
    refine q_iconst C dX7_find_63 ?_
    obtain ⟨r14, h⟩ := h
    refine q_icmp_eq (tgt := 199) C r14 (show rng (-1) by decide) (by decide) dX7_find_64 (fun b15 => ?_) (fun b15 => ?_)
    · have h := h.1 b15
      refine q_lv (lv' := [(0, .ref (gad a0)), (1, .int (gI a1)), (2, .int (gI a2)), (3, .int (gI a3)), (4, .int (gI a4)), (5, .int (gI a5)), (6, .int (gI x6)), (7, .int (gI x7)), (8, .int (gI x8))]) [1, 2, 3, 4, 5, 6, 7, 8, 9] rfl ?_
      exact t199 k20 hk20_ k29 hk29_ x6 x7 x8 M h
    · have h := h.2 b15
      refine q_iload C 0 rfl dX7_find_67 ?_
      refine q_iload_n C 3 rfl rfl dX7_find_69 ?_
      obtain ⟨r16, h⟩ := h
      refine q_icmp_eq (tgt := 199) C r14 r16 (by decide) dX7_find_70 (fun b17 => ?_) (fun b17 => ?_)
      · have h := h.1 b17
        refine q_lv (lv' := [(0, .ref (gad a0)), (1, .int (gI a1)), (2, .int (gI a2)), (3, .int (gI a3)), (4, .int (gI a4)), (5, .int (gI a5)), (6, .int (gI x6)), (7, .int (gI x7)), (8, .int (gI x8))]) [1, 2, 3, 4, 5, 6, 7, 8, 9] rfl ?_
        exact t199 k20 hk20_ k29 hk29_ x6 x7 x8 M h
      · have h := h.2 b17
        refine q_iload C 0 rfl dX7_find_73 ?_
        refine q_iload_n C 4 rfl rfl dX7_find_75 ?_
        obtain ⟨r18, h⟩ := h
        refine q_icmp_ne (tgt := 82) C r14 r18 (by decide) dX7_find_76 (fun b19 => ?_) (fun b19 => ?_)
        · have h := h.1 b19
          refine q_iload C 6 rfl dX7_find_82 ?_
          obtain ⟨r20, h⟩ := h
          refine q_if_ne (tgt := 122) C r20 (by decide) dX7_find_84 (fun b21 => ?_) (fun b21 => ?_)
          · have h := h.1 b21
            refine q_lv (lv' := [(0, .ref (gad a0)), (1, .int (gI a1)), (2, .int (gI a2)), (3, .int (gI a3)), (4, .int (gI a4)), (5, .int (gI a5)), (6, .int (gI x6)), (7, .int (gI x7)), (8, .int (gI x8)), (9, .int (gI y0))]) [1, 2, 3, 4, 5, 6, 7, 8, 9, 0] rfl ?_
            exact t122 k20 hk20_ k29 hk29_ x6 x7 x8 y0 M h
          · have h := h.2 b21
            refine q_iload C 0 rfl dX7_find_87 ?_
            refine q_iload C 5 rfl dX7_find_89 ?_
            obtain ⟨r22, h⟩ := h
            refine q_icmp_eq (tgt := 122) C r14 r22 (by decide) dX7_find_91 (fun b23 => ?_) (fun b23 => ?_)
            · have h := h.1 b23
              refine q_lv (lv' := [(0, .ref (gad a0)), (1, .int (gI a1)), (2, .int (gI a2)), (3, .int (gI a3)), (4, .int (gI a4)), (5, .int (gI a5)), (6, .int (gI x6)), (7, .int (gI x7)), (8, .int (gI x8)), (9, .int (gI y0))]) [1, 2, 3, 4, 5, 6, 7, 8, 9, 0] rfl ?_
              exact t122 k20 hk20_ k29 hk29_ x6 x7 x8 y0 M h
            · have h := h.2 b23
              refine q_aload_n C 1 rfl rfl dX7_find_94 ?_
              refine q_iload_n C 2 rfl rfl dX7_find_95 ?_
              refine q_iload C 0 rfl dX7_find_96 ?_
              refine q_iload_n C 4 rfl rfl dX7_find_98 ?_
              refine q_iload C 5 rfl dX7_find_99 ?_
              refine q_iconst C dX7_find_101 ?_
              refine q_callVI (As := [.int (gI a1), .int (gI y0), .int (gI a3), .int (gI a4), .int (gI 1)]) (st := []) C vX7_107 kX7_legal ⟨Nat.le_of_ble_eq_true rfl, Nat.le_of_ble_eq_true rfl⟩ ⟨Nat.le_of_ble_eq_true rfl, Nat.le_of_ble_eq_true rfl⟩ rfl hk0 ⟨_, _, rfl⟩ (by decide) rfl (Nat.le_of_ble_eq_true rfl) (mX7_legal l D cy kd ln rh _ a0 a1 y0 a3 a4 1 M hk0 h) dX7_find_102 (fun c25 M24 g26 h => ?_)
              have h := h g26
              refine q_if_eq (tgt := 122) C g26 (by decide) dX7_find_105 (fun b27 => ?_) (fun b27 => ?_)
              · have h := h.1 b27
                refine q_lv (lv' := [(0, .ref (gad a0)), (1, .int (gI a1)), (2, .int (gI a2)), (3, .int (gI a3)), (4, .int (gI a4)), (5, .int (gI a5)), (6, .int (gI x6)), (7, .int (gI x7)), (8, .int (gI x8)), (9, .int (gI y0))]) [1, 2, 3, 4, 5, 6, 7, 8, 9, 0] rfl ?_
                exact t122 k20 hk20_ k29 hk29_ x6 x7 x8 y0 M24 h
              · have h := h.2 b27
                refine q_aload_n C 1 rfl rfl dX7_find_108 ?_
                refine q_iload_n C 3 rfl rfl dX7_find_109 ?_
                refine q_iload C 0 rfl dX7_find_110 ?_
                refine q_iconst C dX7_find_112 ?_
                refine q_iload_n C 2 rfl rfl dX7_find_113 ?_
                refine q_iload C 0 rfl dX7_find_114 ?_
                refine q_iload_n C 4 rfl rfl dX7_find_116 ?_
                refine q_iload C 5 rfl dX7_find_117 ?_
                refine q_callVV (As := [.int (gI a2), .int (gI y0), .int (gI (-1)), .int (gI a1), .int (gI y0), .int (gI a3), .int (gI a4)]) (st := []) C vX7_110 kX7_add ⟨Nat.le_of_ble_eq_true rfl, Nat.le_of_ble_eq_true rfl⟩ ⟨Nat.le_of_ble_eq_true rfl, Nat.le_of_ble_eq_true rfl⟩ rfl hk0 ⟨_, _, rfl⟩ (by decide) rfl (Nat.le_of_ble_eq_true rfl) (mX7_add l D cy kd ln rh _ a0 a2 y0 (-1) a1 y0 a3 a4 M24 hk0 h) dX7_find_119 (fun M28 h => ?_)
                refine q_lv (lv' := [(0, .ref (gad a0)), (1, .int (gI a1)), (2, .int (gI a2)), (3, .int (gI a3)), (4, .int (gI a4)), (5, .int (gI a5)), (6, .int (gI x6)), (7, .int (gI x7)), (8, .int (gI x8)), (9, .int (gI y0))]) [1, 2, 3, 4, 5, 6, 7, 8, 9, 0] rfl ?_
                exact t122 k20 hk20_ k29 hk29_ x6 x7 x8 y0 M28 h
        · have h := h.2 b19
          refine q_goto (tgt := 199) C (by decide) dX7_find_79 ?_
          refine q_lv (lv' := [(0, .ref (gad a0)), (1, .int (gI a1)), (2, .int (gI a2)), (3, .int (gI a3)), (4, .int (gI a4)), (5, .int (gI a5)), (6, .int (gI x6)), (7, .int (gI x7)), (8, .int (gI x8))]) [1, 2, 3, 4, 5, 6, 7, 8, 9] rfl ?_
          exact t199 k20 hk20_ k29 hk29_ x6 x7 x8 M h
  have t49 : ∀ (k20 : Int → Int → gM → Prop), (∀ (x6 : Int), ∀ (x7 : Int), ∀ (M : gM), k20 x6 x7 M → gW p l e (gRm 4 100) s m args below meth c D cy A H0 Q 10 kd ln rh 0 0 M 20 [(0, .ref (gad a0)), (1, .int (gI a1)), (2, .int (gI a2)), (3, .int (gI a3)), (4, .int (gI a4)), (5, .int (gI a5)), (6, .int (gI x6)), (7, .int (gI x7))] []) → ∀ (k29 : Int → Int → Int → gM → Prop), (∀ (x6 : Int), ∀ (x7 : Int), ∀ (x8 : Int), ∀ (M : gM), k29 x6 x7 x8 M → gW p l e (gRm 4 100) s m args below meth c D cy A H0 Q 10 kd ln rh 0 0 M 29 [(0, .ref (gad a0)), (1, .int (gI a1)), (2, .int (gI a2)), (3, .int (gI a3)), (4, .int (gI a4)), (5, .int (gI a5)), (6, .int (gI x6)), (7, .int (gI x7)), (8, .int (gI x8))] []) → ∀ (x6 : Int) (x7 : Int) (x8 : Int) (M : gM), wX7_find_49 kd ln post a0 a1 a2 a3 a4 a5 k20 k29 x6 x7 x8 M → gW p l e (gRm 4 100) s m args below meth c D cy A H0 Q 10 kd ln rh 0 0 M 49 [(0, .ref (gad a0)), (1, .int (gI a1)), (2, .int (gI a2)), (3, .int (gI a3)), (4, .int (gI a4)), (5, .int (gI a5)), (6, .int (gI x6)), (7, .int (gI x7)), (8, .int (gI x8))] [] := by
    intro k20 hk20_ k29 hk29_ x6 x7 x8 M h
    unfold wX7_find_49 at h
    refine q_aload_n C 0 rfl rfl dX7_find_49 ?_
    refine q_iload C 6 rfl dX7_find_50 ?_
    refine q_iload C 7 rfl dX7_find_52 ?_
    refine q_iload C 8 rfl dX7_find_54 ?_
    refine q_callVI (As := [.int (gI x6), .int (gI x7), .int (gI x8)]) (st := []) C vX7_92 kX7_off ⟨Nat.le_of_ble_eq_true rfl, Nat.le_of_ble_eq_true rfl⟩ ⟨Nat.le_of_ble_eq_true rfl, Nat.le_of_ble_eq_true rfl⟩ rfl hk0 ⟨_, _, rfl⟩ (by decide) rfl (Nat.le_of_ble_eq_true rfl) (mX7_off l D cy kd ln rh _ a0 x6 x7 x8 M hk0 h) dX7_find_56 (fun c56 M55 g57 h => ?_)
    have h := h g57
    exact t59 k20 hk20_ k29 hk29_ x6 x7 x8 c56 M55 h
  have t29 : ∀ (k20 : Int → Int → gM → Prop), (∀ (x6 : Int), ∀ (x7 : Int), ∀ (M : gM), k20 x6 x7 M → gW p l e (gRm 4 100) s m args below meth c D cy A H0 Q 10 kd ln rh 0 0 M 20 [(0, .ref (gad a0)), (1, .int (gI a1)), (2, .int (gI a2)), (3, .int (gI a3)), (4, .int (gI a4)), (5, .int (gI a5)), (6, .int (gI x6)), (7, .int (gI x7))] []) → ∀ (n : Nat) (x6 : Int) (x7 : Int) (x8 : Int) (M : gM), wX7_find_29 kd ln post a0 a1 a2 a3 a4 a5 k20 n x6 x7 x8 M → gW p l e (gRm 4 100) s m args below meth c D cy A H0 Q 10 kd ln rh 0 0 M 29 [(0, .ref (gad a0)), (1, .int (gI a1)), (2, .int (gI a2)), (3, .int (gI a3)), (4, .int (gI a4)), (5, .int (gI a5)), (6, .int (gI x6)), (7, .int (gI x7)), (8, .int (gI x8))] [] := by
    intro k20 hk20_
    intro n
    induction n with
    | zero => intro x6 x7 x8 M h; exact absurd h (by simp [wX7_find_29])
    | succ n ih =>
      intro x6 x7 x8 M h
      have hk29_ := ih
      rw [wX7_find_29] at h
      refine q_iload C 8 rfl dX7_find_29 ?_
      refine q_iconst C dX7_find_31 ?_
      obtain ⟨r9, h⟩ := h
      refine q_icmp_gt (tgt := 205) C r9 (show rng 1 by decide) (by decide) dX7_find_32 (fun b10 => ?_) (fun b10 => ?_)
      · have h := h.1 b10
        refine q_iinc (lv' := [(7, .int (gI (x7 + 1))), (0, .ref (gad a0)), (1, .int (gI a1)), (2, .int (gI a2)), (3, .int (gI a3)), (4, .int (gI a4)), (5, .int (gI a5)), (6, .int (gI x6)), (8, .int (gI x8))]) C 7 rfl (by decide) rfl dX7_find_205 ?_
        refine q_goto (tgt := 20) C (by decide) dX7_find_208 ?_
        refine q_lv (lv' := [(0, .ref (gad a0)), (1, .int (gI a1)), (2, .int (gI a2)), (3, .int (gI a3)), (4, .int (gI a4)), (5, .int (gI a5)), (6, .int (gI x6)), (7, .int (gI (x7 + 1)))]) [1, 2, 3, 4, 5, 6, 7, 0] rfl ?_
        exact hk20_ x6 (x7 + 1) M h
      · have h := h.2 b10
        refine q_iload C 7 rfl dX7_find_35 ?_
        obtain ⟨r11, h⟩ := h
        refine q_if_ne (tgt := 49) C r11 (by decide) dX7_find_37 (fun b12 => ?_) (fun b12 => ?_)
        · have h := h.1 b12
          exact t49 k20 hk20_ (wX7_find_29 kd ln post a0 a1 a2 a3 a4 a5 k20 n) hk29_ x6 x7 x8 M h
        · have h := h.2 b12
          refine q_iload C 8 rfl dX7_find_40 ?_
          refine q_if_ne (tgt := 49) C r9 (by decide) dX7_find_42 (fun b13 => ?_) (fun b13 => ?_)
          · have h := h.1 b13
            exact t49 k20 hk20_ (wX7_find_29 kd ln post a0 a1 a2 a3 a4 a5 k20 n) hk29_ x6 x7 x8 M h
          · have h := h.2 b13
            refine q_iconst C dX7_find_45 ?_
            refine q_goto (tgt := 59) C (by decide) dX7_find_46 ?_
            exact t59 k20 hk20_ (wX7_find_29 kd ln post a0 a1 a2 a3 a4 a5 k20 n) hk29_ x6 x7 x8 (-1) M h
  have t273 : ∀ (k224 : Int → gM → Prop), (∀ (x7 : Int), ∀ (M : gM), k224 x7 M → gW p l e (gRm 4 100) s m args below meth c D cy A H0 Q 10 kd ln rh 0 0 M 224 [(0, .ref (gad a0)), (1, .int (gI a1)), (2, .int (gI a2)), (3, .int (gI a3)), (4, .int (gI a4)), (5, .int (gI a5)), (7, .int (gI x7))] []) → ∀ (x7 : Int) (M : gM), wX7_find_273 kd ln post a0 a1 a2 a3 a4 a5 k224 x7 M → gW p l e (gRm 4 100) s m args below meth c D cy A H0 Q 10 kd ln rh 0 0 M 273 [(0, .ref (gad a0)), (1, .int (gI a1)), (2, .int (gI a2)), (3, .int (gI a3)), (4, .int (gI a4)), (5, .int (gI a5)), (7, .int (gI x7))] [] := by
    intro k224 hk224_ x7 M h
    unfold wX7_find_273 at h
    refine q_iinc (lv' := [(7, .int (gI (x7 + 1))), (0, .ref (gad a0)), (1, .int (gI a1)), (2, .int (gI a2)), (3, .int (gI a3)), (4, .int (gI a4)), (5, .int (gI a5))]) C 6 rfl (by decide) rfl dX7_find_273 ?_
    refine q_goto (tgt := 224) C (by decide) dX7_find_276 ?_
    refine q_lv (lv' := [(0, .ref (gad a0)), (1, .int (gI a1)), (2, .int (gI a2)), (3, .int (gI a3)), (4, .int (gI a4)), (5, .int (gI a5)), (7, .int (gI (x7 + 1)))]) [1, 2, 3, 4, 5, 6, 0] rfl ?_
    exact hk224_ (x7 + 1) M h
  have t279 : ∀ (M : gM), wX7_find_279 kd ln post a0 a1 a2 a3 a4 a5  M → gW p l e (gRm 4 100) s m args below meth c D cy A H0 Q 10 kd ln rh 0 0 M 279 [(0, .ref (gad a0)), (1, .int (gI a1)), (2, .int (gI a2)), (3, .int (gI a3)), (4, .int (gI a4)), (5, .int (gI a5))] [] := by
    intro   M h
    unfold wX7_find_279 at h
    refine q_iload C 5 rfl dX7_find_279 ?_
    obtain ⟨r72, h⟩ := h
    refine q_if_ne (tgt := 297) C r72 (by decide) dX7_find_281 (fun b73 => ?_) (fun b73 => ?_)
    · have h := h.1 b73
      exact hret M _ _ dX7_find_297 h
    · have h := h.2 b73
      refine q_iload_n C 1 rfl rfl dX7_find_284 ?_
      refine q_iconst C dX7_find_285 ?_
      obtain ⟨r74, h⟩ := h
      refine q_icmp_ne (tgt := 297) C r74 (show rng 2 by decide) (by decide) dX7_find_286 (fun b75 => ?_) (fun b75 => ?_)
      · have h := h.1 b75
        exact hret M _ _ dX7_find_297 h
      · have h := h.2 b75
        refine q_aload_n C 0 rfl rfl dX7_find_289 ?_
        refine q_iload_n C 2 rfl rfl dX7_find_290 ?_
        refine q_iload_n C 3 rfl rfl dX7_find_291 ?_
        refine q_iload C 4 rfl dX7_find_292 ?_
        refine q_callVV (As := [.int (gI a2), .int (gI a3), .int (gI a4)]) (st := []) C vX7_114 kX7_pawnMoves ⟨Nat.le_of_ble_eq_true rfl, Nat.le_of_ble_eq_true rfl⟩ ⟨Nat.le_of_ble_eq_true rfl, Nat.le_of_ble_eq_true rfl⟩ rfl hk0 ⟨_, _, rfl⟩ (by decide) rfl (Nat.le_of_ble_eq_true rfl) (mX7_pawnMoves l D cy kd ln rh _ a0 a2 a3 a4 M hk0 h) dX7_find_294 (fun M76 h => ?_)
        exact hret M76 _ _ dX7_find_297 h
  have t224 : ∀ (n : Nat) (x7 : Int) (M : gM), wX7_find_224 kd ln post a0 a1 a2 a3 a4 a5 n x7 M → gW p l e (gRm 4 100) s m args below meth c D cy A H0 Q 10 kd ln rh 0 0 M 224 [(0, .ref (gad a0)), (1, .int (gI a1)), (2, .int (gI a2)), (3, .int (gI a3)), (4, .int (gI a4)), (5, .int (gI a5)), (7, .int (gI x7))] [] := by
    intro n
    induction n with
    | zero => intro x7 M h; exact absurd h (by simp [wX7_find_224])
    | succ n ih =>
      intro x7 M h
      have hk224_ := ih
      rw [wX7_find_224] at h
      refine q_iload C 6 rfl dX7_find_224 ?_
      refine q_aload_n C 0 rfl rfl dX7_find_226 ?_
      refine q_get (v := .int (gI (M a0 2 (-1)))) C fX7_13 hk0 rfl dX7_find_227 (fun g58 => ?_)
      have h := h g58
      obtain ⟨r59, h⟩ := h
      refine q_icmp_ge (tgt := 279) C r59 g58 (by decide) dX7_find_230 (fun b60 => ?_) (fun b60 => ?_)
      · have h := h.1 b60
        refine q_lv (lv' := [(0, .ref (gad a0)), (1, .int (gI a1)), (2, .int (gI a2)), (3, .int (gI a3)), (4, .int (gI a4)), (5, .int (gI a5))]) [0, 1, 2, 3, 4, 5] rfl ?_
        exact t279  M h
      · have h := h.2 b60
        refine q_iload C 6 rfl dX7_find_233 ?_
        refine q_iload_n C 2 rfl rfl dX7_find_235 ?_
        obtain ⟨r61, h⟩ := h
        refine q_icmp_eq (tgt := 273) C r59 r61 (by decide) dX7_find_236 (fun b62 => ?_) (fun b62 => ?_)
        · have h := h.1 b62
          exact t273 (wX7_find_224 kd ln post a0 a1 a2 a3 a4 a5 n) hk224_ x7 M h
        · have h := h.2 b62
          refine q_iload C 6 rfl dX7_find_239 ?_
          refine q_iload_n C 3 rfl rfl dX7_find_241 ?_
          obtain ⟨r63, h⟩ := h
          refine q_icmp_eq (tgt := 273) C r59 r63 (by decide) dX7_find_242 (fun b64 => ?_) (fun b64 => ?_)
          · have h := h.1 b64
            exact t273 (wX7_find_224 kd ln post a0 a1 a2 a3 a4 a5 n) hk224_ x7 M h
          · have h := h.2 b64
            refine q_aload_n C 0 rfl rfl dX7_find_245 ?_
            refine q_iload_n C 1 rfl rfl dX7_find_246 ?_
            refine q_iload_n C 2 rfl rfl dX7_find_247 ?_
            refine q_iload_n C 3 rfl rfl dX7_find_248 ?_
            refine q_iload C 4 rfl dX7_find_249 ?_
            refine q_iload C 6 rfl dX7_find_251 ?_
            refine q_callVI (As := [.int (gI a1), .int (gI a2), .int (gI a3), .int (gI a4), .int (gI x7)]) (st := []) C vX7_100 kX7_attacks ⟨Nat.le_of_ble_eq_true rfl, Nat.le_of_ble_eq_true rfl⟩ ⟨Nat.le_of_ble_eq_true rfl, Nat.le_of_ble_eq_true rfl⟩ rfl hk0 ⟨_, _, rfl⟩ (by decide) rfl (Nat.le_of_ble_eq_true rfl) (mX7_attacks l D cy kd ln rh _ a0 a1 a2 a3 a4 x7 M hk0 h) dX7_find_253 (fun c66 M65 g67 h => ?_)
            have h := h g67
            refine q_if_eq (tgt := 273) C g67 (by decide) dX7_find_256 (fun b68 => ?_) (fun b68 => ?_)
            · have h := h.1 b68
              exact t273 (wX7_find_224 kd ln post a0 a1 a2 a3 a4 a5 n) hk224_ x7 M65 h
            · have h := h.2 b68
              refine q_aload_n C 0 rfl rfl dX7_find_259 ?_
              refine q_iload C 4 rfl dX7_find_260 ?_
              refine q_iload C 6 rfl dX7_find_262 ?_
              refine q_iconst C dX7_find_264 ?_
              refine q_iload_n C 1 rfl rfl dX7_find_265 ?_
              refine q_iload_n C 2 rfl rfl dX7_find_266 ?_
              refine q_iload_n C 3 rfl rfl dX7_find_267 ?_
              refine q_iload C 6 rfl dX7_find_268 ?_
              refine q_callVV (As := [.int (gI a4), .int (gI x7), .int (gI (-1)), .int (gI a1), .int (gI a2), .int (gI a3), .int (gI x7)]) (st := []) C vX7_110 kX7_add ⟨Nat.le_of_ble_eq_true rfl, Nat.le_of_ble_eq_true rfl⟩ ⟨Nat.le_of_ble_eq_true rfl, Nat.le_of_ble_eq_true rfl⟩ rfl hk0 ⟨_, _, rfl⟩ (by decide) rfl (Nat.le_of_ble_eq_true rfl) (mX7_add l D cy kd ln rh _ a0 a4 x7 (-1) a1 a2 a3 x7 M65 hk0 h) dX7_find_270 (fun M69 h => ?_)
              exact t273 (wX7_find_224 kd ln post a0 a1 a2 a3 a4 a5 n) hk224_ x7 M69 h
  have t20 : ∀ (n : Nat) (x6 : Int) (x7 : Int) (M : gM), wX7_find_20 kd ln post a0 a1 a2 a3 a4 a5 n x6 x7 M → gW p l e (gRm 4 100) s m args below meth c D cy A H0 Q 10 kd ln rh 0 0 M 20 [(0, .ref (gad a0)), (1, .int (gI a1)), (2, .int (gI a2)), (3, .int (gI a3)), (4, .int (gI a4)), (5, .int (gI a5)), (6, .int (gI x6)), (7, .int (gI x7))] [] := by
    intro n
    induction n with
    | zero => intro x6 x7 M h; exact absurd h (by simp [wX7_find_20])
    | succ n ih =>
      intro x6 x7 M h
      have hk20_ := ih
      rw [wX7_find_20] at h
      refine q_iload C 7 rfl dX7_find_20 ?_
      refine q_iconst C dX7_find_22 ?_
      obtain ⟨r3, h⟩ := h
      refine q_icmp_gt (tgt := 211) C r3 (show rng 1 by decide) (by decide) dX7_find_23 (fun b4 => ?_) (fun b4 => ?_)
      · have h := h.1 b4
        refine q_iload C 5 rfl dX7_find_211 ?_
        obtain ⟨r5, h⟩ := h
        refine q_if_ne (tgt := 279) C r5 (by decide) dX7_find_213 (fun b6 => ?_) (fun b6 => ?_)
        · have h := h.1 b6
          refine q_lv (lv' := [(0, .ref (gad a0)), (1, .int (gI a1)), (2, .int (gI a2)), (3, .int (gI a3)), (4, .int (gI a4)), (5, .int (gI a5))]) [0, 1, 2, 3, 4, 5] rfl ?_
          exact t279  M h
        · have h := h.2 b6
          refine q_iload_n C 1 rfl rfl dX7_find_216 ?_
          refine q_iconst C dX7_find_217 ?_
          obtain ⟨r7, h⟩ := h
          refine q_icmp_ge (tgt := 279) C r7 (show rng 2 by decide) (by decide) dX7_find_218 (fun b8 => ?_) (fun b8 => ?_)
          · have h := h.1 b8
            refine q_lv (lv' := [(0, .ref (gad a0)), (1, .int (gI a1)), (2, .int (gI a2)), (3, .int (gI a3)), (4, .int (gI a4)), (5, .int (gI a5))]) [0, 1, 2, 3, 4, 5] rfl ?_
            exact t279  M h
          · have h := h.2 b8
            refine q_iconst C dX7_find_221 ?_
            refine q_istore (lv' := [(7, .int (gI 0)), (0, .ref (gad a0)), (1, .int (gI a1)), (2, .int (gI a2)), (3, .int (gI a3)), (4, .int (gI a4)), (5, .int (gI a5)), (6, .int (gI x6))]) C (by decide) rfl dX7_find_222 ?_
            refine q_lv (lv' := [(0, .ref (gad a0)), (1, .int (gI a1)), (2, .int (gI a2)), (3, .int (gI a3)), (4, .int (gI a4)), (5, .int (gI a5)), (7, .int (gI 0))]) [1, 2, 3, 4, 5, 6, 0] rfl ?_
            obtain ⟨j224, h⟩ := h
            exact t224  j224 0 M h
      · have h := h.2 b4
        refine q_iconst C dX7_find_26 ?_
        refine q_istore (lv' := [(8, .int (gI (-1))), (0, .ref (gad a0)), (1, .int (gI a1)), (2, .int (gI a2)), (3, .int (gI a3)), (4, .int (gI a4)), (5, .int (gI a5)), (6, .int (gI x6)), (7, .int (gI x7))]) C (by decide) rfl dX7_find_27 ?_
        refine q_lv (lv' := [(0, .ref (gad a0)), (1, .int (gI a1)), (2, .int (gI a2)), (3, .int (gI a3)), (4, .int (gI a4)), (5, .int (gI a5)), (6, .int (gI x6)), (7, .int (gI x7)), (8, .int (gI (-1)))]) [1, 2, 3, 4, 5, 6, 7, 8, 0] rfl ?_
        obtain ⟨j29, h⟩ := h
        exact t29 (wX7_find_20 kd ln post a0 a1 a2 a3 a4 a5 n) hk20_ j29 x6 x7 (-1) M h
  have t15 : ∀ (y0 : Int) (M : gM), wX7_find_15 kd ln post a0 a1 a2 a3 a4 a5 y0 M → gW p l e (gRm 4 100) s m args below meth c D cy A H0 Q 10 kd ln rh 0 0 M 15 [(0, .ref (gad a0)), (1, .int (gI a1)), (2, .int (gI a2)), (3, .int (gI a3)), (4, .int (gI a4)), (5, .int (gI a5))] [.int (gI y0)] := by
    intro  y0 M h
    unfold wX7_find_15 at h
    refine q_istore (lv' := [(6, .int (gI y0)), (0, .ref (gad a0)), (1, .int (gI a1)), (2, .int (gI a2)), (3, .int (gI a3)), (4, .int (gI a4)), (5, .int (gI a5))]) C (by decide) rfl dX7_find_15 ?_
    refine q_iconst C dX7_find_17 ?_
    refine q_istore (lv' := [(7, .int (gI (-1))), (6, .int (gI y0)), (0, .ref (gad a0)), (1, .int (gI a1)), (2, .int (gI a2)), (3, .int (gI a3)), (4, .int (gI a4)), (5, .int (gI a5))]) C (by decide) rfl dX7_find_18 ?_
    refine q_lv (lv' := [(0, .ref (gad a0)), (1, .int (gI a1)), (2, .int (gI a2)), (3, .int (gI a3)), (4, .int (gI a4)), (5, .int (gI a5)), (6, .int (gI y0)), (7, .int (gI (-1)))]) [2, 3, 4, 5, 6, 7, 1, 0] rfl ?_
    obtain ⟨j20, h⟩ := h
    exact t20  j20 y0 (-1) M h
  unfold wX7_find at h
  refine q_aload_n C 0 rfl rfl dX7_find_0 ?_
  refine q_iconst C dX7_find_1 ?_
  refine q_put (x := 0) (ty := .int) C fX7_104 hk0 (fun _ _ _ q => by cases q; rfl) (congrArg (fun z => Value.int (gI z)) gu_s) rfl rfl (show rng 0 by decide) (fun j q => absurd (show (0 : Nat) = j + 3 from q) (by omega)) dX7_find_2 ?_
  refine q_iload C 5 rfl dX7_find_5 ?_
  obtain ⟨r1, h⟩ := h
  refine q_if_ne (tgt := 14) C r1 (by decide) dX7_find_7 (fun b2 => ?_) (fun b2 => ?_)
  · have h := h.1 b2
    refine q_iload_n C 3 rfl rfl dX7_find_14 ?_
    exact t15  a3 (gu M a0 12 (-1) 0) h
  · have h := h.2 b2
    refine q_iload_n C 2 rfl rfl dX7_find_10 ?_
    refine q_goto (tgt := 15) C (by decide) dX7_find_11 ?_
    exact t15  a2 (gu M a0 12 (-1) 0) h
set_option maxHeartbeats 4000000 in
set_option maxRecDepth 100000 in
theorem mX7_key (l : Launch) (D : va_G) (cy : Nat → ClassId) (kd : gKd) (ln : gLn) (rh : gRh) (post : Int → gM → Prop) (a0 : Int) (a1 : Int) (a2 : Int) (a3 : Int) (a4 : Int) (M : gM) (hk0 : kd a0 = 7) (h : wX7_key kd ln post a0 a1 a2 a3 a4 M) : gMI l D cy yX7_key cX7_key 5 .int 0 0 [.ref (gad a0), .int (gI a1), .int (gI a2), .int (gI a3), .int (gI a4)] kd ln rh M post := by
  refine gMI_of (own := RX7) (by decide) rfl (Nat.le_of_ble_eq_true rfl) ?_
  intro p e s m args below meth c A H0 Q C hret
  unfold wX7_key at h
  refine q_iconst C dX7_key_0 ?_
  refine q_iload_n C 1 rfl rfl dX7_key_1 ?_
  refine q_aload_n C 0 rfl rfl dX7_key_2 ?_
  refine q_get (v := .int (gI (M a0 2 (-1)))) C fX7_13 hk0 rfl dX7_key_3 (fun g1 => ?_)
  have h := h g1
  refine q_imul C dX7_key_6 ?_
  refine q_iload_n C 2 rfl rfl dX7_key_7 ?_
  refine q_iadd C dX7_key_8 ?_
  refine q_aload_n C 0 rfl rfl dX7_key_9 ?_
  refine q_get (v := .int (gI (M a0 2 (-1)))) C fX7_13 hk0 rfl dX7_key_10 (fun g2 => ?_)
  refine q_imul C dX7_key_13 ?_
  refine q_iload_n C 3 rfl rfl dX7_key_14 ?_
  refine q_iadd C dX7_key_15 ?_
  refine q_imul C dX7_key_16 ?_
  refine q_iload C 4 rfl dX7_key_17 ?_
  refine q_iadd C dX7_key_19 ?_
  obtain ⟨r3, h⟩ := h
  exact hret ((2 * ((((a1 * (M a0 2 (-1))) + a2) * (M a0 2 (-1))) + a3)) + a4) M _ _ dX7_key_20 r3 h
set_option maxHeartbeats 4000000 in
set_option maxRecDepth 100000 in
theorem mX7_decide (l : Launch) (D : va_G) (cy : Nat → ClassId) (kd : gKd) (ln : gLn) (rh : gRh) (post : gM → Prop) (a0 : Int) (a1 : Int) (a2 : Int) (a3 : Int) (a4 : Int) (a5 : Int) (a6 : Int) (M : gM) (hk0 : kd a0 = 7) (h : wX7_decide kd ln post a0 a1 a2 a3 a4 a5 a6 M) : gMV l D cy yX7_decide cX7_decide 7 1 24 [.ref (gad a0), .int (gI a1), .int (gI a2), .int (gI a3), .int (gI a4), .int (gI a5), .int (gI a6)] kd ln rh M post := by
  refine gMV_of (own := RX7) (by decide) rfl (Nat.le_of_ble_eq_true rfl) ?_
  intro p e s m args below meth c A H0 Q C hret
  unfold wX7_decide at h
  refine q_aload_n C 0 rfl rfl dX7_decide_0 ?_
  obtain ⟨r1, h⟩ := h
  refine q_get (v := .ref (rh a0 4)) C fX7_21 hk0 (if_neg (Int.not_lt.mpr r1)) dX7_decide_1 (fun g2 => ?_)
  refine q_ldc (n := 524288) C nX7_118 (by decide) dX7_decide_4 ?_
  refine q_iload_n C 1 rfl rfl dX7_decide_6 ?_
  refine q_imul C dX7_decide_7 ?_
  refine q_aload_n C 0 rfl rfl dX7_decide_8 ?_
  refine q_iload_n C 2 rfl rfl dX7_decide_9 ?_
  refine q_iload_n C 3 rfl rfl dX7_decide_10 ?_
  refine q_iload C 4 rfl dX7_decide_11 ?_
  refine q_iload C 5 rfl dX7_decide_13 ?_
  refine q_callVI (As := [.int (gI a2), .int (gI a3), .int (gI a4), .int (gI a5)]) (st := [.int (gI (524288 * a1)), .ref (rh a0 4)]) C vX7_119 kX7_key ⟨Nat.le_of_ble_eq_true rfl, Nat.le_of_ble_eq_true rfl⟩ ⟨Nat.le_of_ble_eq_true rfl, Nat.le_of_ble_eq_true rfl⟩ rfl hk0 ⟨_, _, rfl⟩ (by decide) rfl (Nat.le_of_ble_eq_true rfl) (mX7_key l D cy kd ln rh _ a0 a2 a3 a4 a5 M hk0 h) dX7_decide_15 (fun c4 M3 g5 h => ?_)
  have h := h g5
  refine q_iadd C dX7_decide_18 ?_
  refine q_iload C 6 rfl dX7_decide_19 ?_
  refine q_iconst C dX7_decide_21 ?_
  refine q_iadd C dX7_decide_22 ?_
  refine q_i2b C dX7_decide_23 ?_
  obtain ⟨r6, h⟩ := h
  obtain ⟨r7, h⟩ := h
  refine q_bast C hk0 rfl (rng8 r7) r7 r6 dX7_decide_24 ?_
  refine q_aload_n C 0 rfl rfl dX7_decide_25 ?_
  refine q_iconst C dX7_decide_26 ?_
  refine q_put (x := 1) (ty := .boolean) C fX7_134 hk0 (fun _ _ _ q => by cases q; rfl) (congrArg (fun z => Value.int (gI z)) gu_s) rfl rfl (show rng 1 by decide) (fun j q => absurd (show (0 : Nat) = j + 3 from q) (by omega)) dX7_decide_27 ?_
  exact hret (gu (gu M3 a0 4 ((524288 * a1) + c4) (gi2b (a6 + 1))) a0 20 (-1) 1) _ _ dX7_decide_30 h
set_option maxHeartbeats 4000000 in
set_option maxRecDepth 100000 in
theorem mX7_isOpen (l : Launch) (D : va_G) (cy : Nat → ClassId) (kd : gKd) (ln : gLn) (rh : gRh) (post : Int → gM → Prop) (a0 : Int) (a1 : Int) (a2 : Int) (a3 : Int) (a4 : Int) (a5 : Int) (M : gM) (hk0 : kd a0 = 7) (h : wX7_isOpen kd ln post a0 a1 a2 a3 a4 a5 M) : gMI l D cy yX7_isOpen cX7_isOpen 6 .boolean 4 100 [.ref (gad a0), .int (gI a1), .int (gI a2), .int (gI a3), .int (gI a4), .int (gI a5)] kd ln rh M post := by
  refine gMI_ofZ (own := RX7) (by decide) rfl (Nat.le_of_ble_eq_true rfl) ?_
  intro p e s m args below meth c A H0 Q C hret
  unfold wX7_isOpen at h
  refine q_aload_n C 0 rfl rfl dX7_isOpen_0 ?_
  refine q_iload_n C 1 rfl rfl dX7_isOpen_1 ?_
  refine q_iload_n C 2 rfl rfl dX7_isOpen_2 ?_
  refine q_iload_n C 3 rfl rfl dX7_isOpen_3 ?_
  refine q_iload C 4 rfl dX7_isOpen_4 ?_
  refine q_iload C 5 rfl dX7_isOpen_6 ?_
  refine q_callVI (As := [.int (gI a1), .int (gI a2), .int (gI a3), .int (gI a4), .int (gI a5)]) (st := []) C vX7_107 kX7_legal ⟨Nat.le_of_ble_eq_true rfl, Nat.le_of_ble_eq_true rfl⟩ ⟨Nat.le_of_ble_eq_true rfl, Nat.le_of_ble_eq_true rfl⟩ rfl hk0 ⟨_, _, rfl⟩ (by decide) rfl (Nat.le_of_ble_eq_true rfl) (mX7_legal l D cy kd ln rh _ a0 a1 a2 a3 a4 a5 M hk0 h) dX7_isOpen_8 (fun c2 M1 g3 h => ?_)
  have h := h g3
  refine q_if_eq (tgt := 41) C g3 (by decide) dX7_isOpen_11 (fun b4 => ?_) (fun b4 => ?_)
  · have h := h.1 b4
    refine q_iconst C dX7_isOpen_41 ?_
    exact hret 0 M1 _ _ dX7_isOpen_42 (Or.inl rfl) h
  · have h := h.2 b4
    refine q_aload_n C 0 rfl rfl dX7_isOpen_14 ?_
    obtain ⟨r5, h⟩ := h
    refine q_get (v := .ref (rh a0 4)) C fX7_21 hk0 (if_neg (Int.not_lt.mpr r5)) dX7_isOpen_15 (fun g6 => ?_)
    refine q_ldc (n := 524288) C nX7_118 (by decide) dX7_isOpen_18 ?_
    refine q_iload_n C 1 rfl rfl dX7_isOpen_20 ?_
    refine q_imul C dX7_isOpen_21 ?_
    refine q_aload_n C 0 rfl rfl dX7_isOpen_22 ?_
    refine q_iload_n C 2 rfl rfl dX7_isOpen_23 ?_
    refine q_iload_n C 3 rfl rfl dX7_isOpen_24 ?_
    refine q_iload C 4 rfl dX7_isOpen_25 ?_
    refine q_iload C 5 rfl dX7_isOpen_27 ?_
    refine q_callVI (As := [.int (gI a2), .int (gI a3), .int (gI a4), .int (gI a5)]) (st := [.int (gI (524288 * a1)), .ref (rh a0 4)]) C vX7_119 kX7_key ⟨Nat.le_of_ble_eq_true rfl, Nat.le_of_ble_eq_true rfl⟩ ⟨Nat.le_of_ble_eq_true rfl, Nat.le_of_ble_eq_true rfl⟩ rfl hk0 ⟨_, _, rfl⟩ (by decide) rfl (Nat.le_of_ble_eq_true rfl) (mX7_key l D cy kd ln rh _ a0 a2 a3 a4 a5 M1 hk0 h) dX7_isOpen_29 (fun c8 M7 g9 h => ?_)
    have h := h g9
    refine q_iadd C dX7_isOpen_32 ?_
    obtain ⟨r10, h⟩ := h
    refine q_bald C hk0 rfl (fun _ q => q) r10 dX7_isOpen_33 (fun g11 => ?_)
    have h := h g11
    refine q_if_ne (tgt := 41) C g11 (by decide) dX7_isOpen_34 (fun b12 => ?_) (fun b12 => ?_)
    · have h := h.1 b12
      refine q_iconst C dX7_isOpen_41 ?_
      exact hret 0 M7 _ _ dX7_isOpen_42 (Or.inl rfl) h
    · have h := h.2 b12
      refine q_iconst C dX7_isOpen_37 ?_
      refine q_goto (tgt := 42) C (by decide) dX7_isOpen_38 ?_
      exact hret 1 M7 _ _ dX7_isOpen_42 (Or.inr rfl) h
set_option maxHeartbeats 4000000 in
set_option maxRecDepth 100000 in
theorem mX7_backWhite (l : Launch) (D : va_G) (cy : Nat → ClassId) (kd : gKd) (ln : gLn) (rh : gRh) (post : gM → Prop) (a0 : Int) (a1 : Int) (a2 : Int) (a3 : Int) (a4 : Int) (a5 : Int) (M : gM) (hk0 : kd a0 = 7) (h : wX7_backWhite kd ln post a0 a1 a2 a3 a4 a5 M) : gMV l D cy yX7_backWhite cX7_backWhite 10 5 125 [.ref (gad a0), .int (gI a1), .int (gI a2), .int (gI a3), .int (gI a4), .int (gI a5)] kd ln rh M post := by
  refine gMV_of (own := RX7) (by decide) rfl (Nat.le_of_ble_eq_true rfl) ?_
  intro p e s m args below meth c A H0 Q C hret
  have t160 : ∀ (k3 : Int → gM → Prop), (∀ (x6 : Int), ∀ (M : gM), k3 x6 M → gW p l e (gRm 5 125) s m args below meth c D cy A H0 Q 10 kd ln rh 0 0 M 3 [(0, .ref (gad a0)), (1, .int (gI a1)), (2, .int (gI a2)), (3, .int (gI a3)), (4, .int (gI a4)), (5, .int (gI a5)), (6, .int (gI x6))] []) → ∀ (k12 : Int → Int → gM → Prop), (∀ (x6 : Int), ∀ (x7 : Int), ∀ (M : gM), k12 x6 x7 M → gW p l e (gRm 5 125) s m args below meth c D cy A H0 Q 10 kd ln rh 0 0 M 12 [(0, .ref (gad a0)), (1, .int (gI a1)), (2, .int (gI a2)), (3, .int (gI a3)), (4, .int (gI a4)), (5, .int (gI a5)), (6, .int (gI x6)), (7, .int (gI x7))] []) → ∀ (k117 : Int → Int → Int → gM → Prop), (∀ (x6 : Int), ∀ (x7 : Int), ∀ (x9 : Int), ∀ (M : gM), k117 x6 x7 x9 M → gW p l e (gRm 5 125) s m args below meth c D cy A H0 Q 10 kd ln rh 0 0 M 117 [(0, .ref (gad a0)), (1, .int (gI a1)), (2, .int (gI a2)), (3, .int (gI a3)), (4, .int (gI a4)), (5, .int (gI a5)), (6, .int (gI x6)), (7, .int (gI x7)), (9, .int (gI x9))] []) → ∀ (x6 : Int) (x7 : Int) (x9 : Int) (M : gM), wX7_backWhite_160 kd ln post a0 a1 a2 a3 a4 a5 k3 k12 k117 x6 x7 x9 M → gW p l e (gRm 5 125) s m args below meth c D cy A H0 Q 10 kd ln rh 0 0 M 160 [(0, .ref (gad a0)), (1, .int (gI a1)), (2, .int (gI a2)), (3, .int (gI a3)), (4, .int (gI a4)), (5, .int (gI a5)), (6, .int (gI x6)), (7, .int (gI x7)), (9, .int (gI x9))] [] := by
    intro k3 hk3_ k12 hk12_ k117 hk117_ x6 x7 x9 M h
    unfold wX7_backWhite_160 at h
    refine q_aload_n C 0 rfl rfl dX7_backWhite_160 ?_
    refine q_iload C 8 rfl dX7_backWhite_161 ?_
    refine q_iload C 6 rfl dX7_backWhite_163 ?_
    refine q_iload C 7 rfl dX7_backWhite_165 ?_
    refine q_callVI (As := [.int (gI x9), .int (gI x6), .int (gI x7)]) (st := []) C vX7_92 kX7_off ⟨Nat.le_of_ble_eq_true rfl, Nat.le_of_ble_eq_true rfl⟩ ⟨Nat.le_of_ble_eq_true rfl, Nat.le_of_ble_eq_true rfl⟩ rfl hk0 ⟨_, _, rfl⟩ (by decide) rfl (Nat.le_of_ble_eq_true rfl) (mX7_off l D cy kd ln rh _ a0 x9 x6 x7 M hk0 h) dX7_backWhite_167 (fun c56 M55 g57 h => ?_)
    have h := h g57
    refine q_istore (lv' := [(9, .int (gI c56)), (0, .ref (gad a0)), (1, .int (gI a1)), (2, .int (gI a2)), (3, .int (gI a3)), (4, .int (gI a4)), (5, .int (gI a5)), (6, .int (gI x6)), (7, .int (gI x7))]) C (by decide) rfl dX7_backWhite_170 ?_
    refine q_goto (tgt := 117) C (by decide) dX7_backWhite_172 ?_
    refine q_lv (lv' := [(0, .ref (gad a0)), (1, .int (gI a1)), (2, .int (gI a2)), (3, .int (gI a3)), (4, .int (gI a4)), (5, .int (gI a5)), (6, .int (gI x6)), (7, .int (gI x7)), (9, .int (gI c56))]) [1, 2, 3, 4, 5, 6, 7, 8, 0] rfl ?_
    exact hk117_ x6 x7 c56 M55 h
  have t175 : ∀ (k3 : Int → gM → Prop), (∀ (x6 : Int), ∀ (M : gM), k3 x6 M → gW p l e (gRm 5 125) s m args below meth c D cy A H0 Q 10 kd ln rh 0 0 M 3 [(0, .ref (gad a0)), (1, .int (gI a1)), (2, .int (gI a2)), (3, .int (gI a3)), (4, .int (gI a4)), (5, .int (gI a5)), (6, .int (gI x6))] []) → ∀ (k12 : Int → Int → gM → Prop), (∀ (x6 : Int), ∀ (x7 : Int), ∀ (M : gM), k12 x6 x7 M → gW p l e (gRm 5 125) s m args below meth c D cy A H0 Q 10 kd ln rh 0 0 M 12 [(0, .ref (gad a0)), (1, .int (gI a1)), (2, .int (gI a2)), (3, .int (gI a3)), (4, .int (gI a4)), (5, .int (gI a5)), (6, .int (gI x6)), (7, .int (gI x7))] []) → ∀ (x6 : Int) (x7 : Int) (M : gM), wX7_backWhite_175 kd ln post a0 a1 a2 a3 a4 a5 k3 k12 x6 x7 M → gW p l e (gRm 5 125) s m args below meth c D cy A H0 Q 10 kd ln rh 0 0 M 175 [(0, .ref (gad a0)), (1, .int (gI a1)), (2, .int (gI a2)), (3, .int (gI a3)), (4, .int (gI a4)), (5, .int (gI a5)), (6, .int (gI x6)), (7, .int (gI x7))] [] := by
    intro k3 hk3_ k12 hk12_ x6 x7 M h
    unfold wX7_backWhite_175 at h
    refine q_iinc (lv' := [(7, .int (gI (x7 + 1))), (0, .ref (gad a0)), (1, .int (gI a1)), (2, .int (gI a2)), (3, .int (gI a3)), (4, .int (gI a4)), (5, .int (gI a5)), (6, .int (gI x6))]) C 7 rfl (by decide) rfl dX7_backWhite_175 ?_
    refine q_goto (tgt := 12) C (by decide) dX7_backWhite_178 ?_
    refine q_lv (lv' := [(0, .ref (gad a0)), (1, .int (gI a1)), (2, .int (gI a2)), (3, .int (gI a3)), (4, .int (gI a4)), (5, .int (gI a5)), (6, .int (gI x6)), (7, .int (gI (x7 + 1)))]) [1, 2, 3, 4, 5, 6, 7, 0] rfl ?_
    exact hk12_ x6 (x7 + 1) M h
  have t117 : ∀ (k3 : Int → gM → Prop), (∀ (x6 : Int), ∀ (M : gM), k3 x6 M → gW p l e (gRm 5 125) s m args below meth c D cy A H0 Q 10 kd ln rh 0 0 M 3 [(0, .ref (gad a0)), (1, .int (gI a1)), (2, .int (gI a2)), (3, .int (gI a3)), (4, .int (gI a4)), (5, .int (gI a5)), (6, .int (gI x6))] []) → ∀ (k12 : Int → Int → gM → Prop), (∀ (x6 : Int), ∀ (x7 : Int), ∀ (M : gM), k12 x6 x7 M → gW p l e (gRm 5 125) s m args below meth c D cy A H0 Q 10 kd ln rh 0 0 M 12 [(0, .ref (gad a0)), (1, .int (gI a1)), (2, .int (gI a2)), (3, .int (gI a3)), (4, .int (gI a4)), (5, .int (gI a5)), (6, .int (gI x6)), (7, .int (gI x7))] []) → ∀ (n : Nat) (x6 : Int) (x7 : Int) (x9 : Int) (M : gM), wX7_backWhite_117 kd ln post a0 a1 a2 a3 a4 a5 k3 k12 n x6 x7 x9 M → gW p l e (gRm 5 125) s m args below meth c D cy A H0 Q 10 kd ln rh 0 0 M 117 [(0, .ref (gad a0)), (1, .int (gI a1)), (2, .int (gI a2)), (3, .int (gI a3)), (4, .int (gI a4)), (5, .int (gI a5)), (6, .int (gI x6)), (7, .int (gI x7)), (9, .int (gI x9))] [] := by
    intro k3 hk3_ k12 hk12_
    intro n
    induction n with
    | zero => intro x6 x7 x9 M h; exact absurd h (by simp [wX7_backWhite_117])
    | succ n ih =>
      intro x6 x7 x9 M h
      have hk117_ := ih
      rw [wX7_backWhite_117] at h
      refine q_iload C 8 rfl dX7_backWhite_117 ?_
      refine q_iconst C dX7_backWhite_119 ?_
      obtain ⟨r42, h⟩ := h
      refine q_icmp_eq (tgt := 175) C r42 (show rng (-1) by decide) (by decide) dX7_backWhite_120 (fun b43 => ?_) (fun b43 => ?_)
      · have h := h.1 b43
        refine q_lv (lv' := [(0, .ref (gad a0)), (1, .int (gI a1)), (2, .int (gI a2)), (3, .int (gI a3)), (4, .int (gI a4)), (5, .int (gI a5)), (6, .int (gI x6)), (7, .int (gI x7))]) [0, 1, 2, 3, 4, 5, 6, 7] rfl ?_
        exact t175 k3 hk3_ k12 hk12_ x6 x7 M h
      · have h := h.2 b43
        refine q_iload C 8 rfl dX7_backWhite_123 ?_
        refine q_iload_n C 2 rfl rfl dX7_backWhite_125 ?_
        obtain ⟨r44, h⟩ := h
        refine q_icmp_eq (tgt := 175) C r42 r44 (by decide) dX7_backWhite_126 (fun b45 => ?_) (fun b45 => ?_)
        · have h := h.1 b45
          refine q_lv (lv' := [(0, .ref (gad a0)), (1, .int (gI a1)), (2, .int (gI a2)), (3, .int (gI a3)), (4, .int (gI a4)), (5, .int (gI a5)), (6, .int (gI x6)), (7, .int (gI x7))]) [0, 1, 2, 3, 4, 5, 6, 7] rfl ?_
          exact t175 k3 hk3_ k12 hk12_ x6 x7 M h
        · have h := h.2 b45
          refine q_iload C 8 rfl dX7_backWhite_129 ?_
          refine q_iload_n C 3 rfl rfl dX7_backWhite_131 ?_
          obtain ⟨r46, h⟩ := h
          refine q_icmp_eq (tgt := 175) C r42 r46 (by decide) dX7_backWhite_132 (fun b47 => ?_) (fun b47 => ?_)
          · have h := h.1 b47
            refine q_lv (lv' := [(0, .ref (gad a0)), (1, .int (gI a1)), (2, .int (gI a2)), (3, .int (gI a3)), (4, .int (gI a4)), (5, .int (gI a5)), (6, .int (gI x6)), (7, .int (gI x7))]) [0, 1, 2, 3, 4, 5, 6, 7] rfl ?_
            exact t175 k3 hk3_ k12 hk12_ x6 x7 M h
          · have h := h.2 b47
            refine q_aload_n C 0 rfl rfl dX7_backWhite_135 ?_
            refine q_iload_n C 1 rfl rfl dX7_backWhite_136 ?_
            refine q_iload_n C 2 rfl rfl dX7_backWhite_137 ?_
            refine q_iload_n C 3 rfl rfl dX7_backWhite_138 ?_
            refine q_iload C 8 rfl dX7_backWhite_139 ?_
            refine q_iconst C dX7_backWhite_141 ?_
            refine q_callVI (As := [.int (gI a1), .int (gI a2), .int (gI a3), .int (gI x9), .int (gI 0)]) (st := []) C vX7_159 kX7_isOpen ⟨Nat.le_of_ble_eq_true rfl, Nat.le_of_ble_eq_true rfl⟩ ⟨Nat.le_of_ble_eq_true rfl, Nat.le_of_ble_eq_true rfl⟩ rfl hk0 ⟨_, _, rfl⟩ (by decide) rfl (Nat.le_of_ble_eq_true rfl) (mX7_isOpen l D cy kd ln rh _ a0 a1 a2 a3 x9 0 M hk0 h) dX7_backWhite_142 (fun c49 M48 g50 h => ?_)
            have h := h g50
            refine q_if_eq (tgt := 160) C g50 (by decide) dX7_backWhite_145 (fun b51 => ?_) (fun b51 => ?_)
            · have h := h.1 b51
              exact t160 k3 hk3_ k12 hk12_ (wX7_backWhite_117 kd ln post a0 a1 a2 a3 a4 a5 k3 k12 n) hk117_ x6 x7 x9 M48 h
            · have h := h.2 b51
              refine q_aload_n C 0 rfl rfl dX7_backWhite_148 ?_
              refine q_iload_n C 1 rfl rfl dX7_backWhite_149 ?_
              refine q_iload_n C 2 rfl rfl dX7_backWhite_150 ?_
              refine q_iload_n C 3 rfl rfl dX7_backWhite_151 ?_
              refine q_iload C 8 rfl dX7_backWhite_152 ?_
              refine q_iconst C dX7_backWhite_154 ?_
              refine q_iload C 5 rfl dX7_backWhite_155 ?_
              refine q_callVV (As := [.int (gI a1), .int (gI a2), .int (gI a3), .int (gI x9), .int (gI 0), .int (gI a5)]) (st := []) C vX7_142 kX7_decide ⟨Nat.le_of_ble_eq_true rfl, Nat.le_of_ble_eq_true rfl⟩ ⟨Nat.le_of_ble_eq_true rfl, Nat.le_of_ble_eq_true rfl⟩ rfl hk0 ⟨_, _, rfl⟩ (by decide) rfl (Nat.le_of_ble_eq_true rfl) (mX7_decide l D cy kd ln rh _ a0 a1 a2 a3 x9 0 a5 M48 hk0 h) dX7_backWhite_157 (fun M52 h => ?_)
              exact t160 k3 hk3_ k12 hk12_ (wX7_backWhite_117 kd ln post a0 a1 a2 a3 a4 a5 k3 k12 n) hk117_ x6 x7 x9 M52 h
  have t105 : ∀ (k3 : Int → gM → Prop), (∀ (x6 : Int), ∀ (M : gM), k3 x6 M → gW p l e (gRm 5 125) s m args below meth c D cy A H0 Q 10 kd ln rh 0 0 M 3 [(0, .ref (gad a0)), (1, .int (gI a1)), (2, .int (gI a2)), (3, .int (gI a3)), (4, .int (gI a4)), (5, .int (gI a5)), (6, .int (gI x6))] []) → ∀ (k12 : Int → Int → gM → Prop), (∀ (x6 : Int), ∀ (x7 : Int), ∀ (M : gM), k12 x6 x7 M → gW p l e (gRm 5 125) s m args below meth c D cy A H0 Q 10 kd ln rh 0 0 M 12 [(0, .ref (gad a0)), (1, .int (gI a1)), (2, .int (gI a2)), (3, .int (gI a3)), (4, .int (gI a4)), (5, .int (gI a5)), (6, .int (gI x6)), (7, .int (gI x7))] []) → ∀ (x6 : Int) (x7 : Int) (M : gM), wX7_backWhite_105 kd ln post a0 a1 a2 a3 a4 a5 k3 k12 x6 x7 M → gW p l e (gRm 5 125) s m args below meth c D cy A H0 Q 10 kd ln rh 0 0 M 105 [(0, .ref (gad a0)), (1, .int (gI a1)), (2, .int (gI a2)), (3, .int (gI a3)), (4, .int (gI a4)), (5, .int (gI a5)), (6, .int (gI x6)), (7, .int (gI x7))] [] := by
    intro k3 hk3_ k12 hk12_ x6 x7 M h
    unfold wX7_backWhite_105 at h
    refine q_aload_n C 0 rfl rfl dX7_backWhite_105 ?_
    refine q_iload C 4 rfl dX7_backWhite_106 ?_
    refine q_iload C 6 rfl dX7_backWhite_108 ?_
    refine q_iload C 7 rfl dX7_backWhite_110 ?_
    refine q_callVI (As := [.int (gI a4), .int (gI x6), .int (gI x7)]) (st := []) C vX7_92 kX7_off ⟨Nat.le_of_ble_eq_true rfl, Nat.le_of_ble_eq_true rfl⟩ ⟨Nat.le_of_ble_eq_true rfl, Nat.le_of_ble_eq_true rfl⟩ rfl hk0 ⟨_, _, rfl⟩ (by decide) rfl (Nat.le_of_ble_eq_true rfl) (mX7_off l D cy kd ln rh _ a0 a4 x6 x7 M hk0 h) dX7_backWhite_112 (fun c40 M39 g41 h => ?_)
    have h := h g41
    refine q_istore (lv' := [(9, .int (gI c40)), (0, .ref (gad a0)), (1, .int (gI a1)), (2, .int (gI a2)), (3, .int (gI a3)), (4, .int (gI a4)), (5, .int (gI a5)), (6, .int (gI x6)), (7, .int (gI x7))]) C (by decide) rfl dX7_backWhite_115 ?_
    refine q_lv (lv' := [(0, .ref (gad a0)), (1, .int (gI a1)), (2, .int (gI a2)), (3, .int (gI a3)), (4, .int (gI a4)), (5, .int (gI a5)), (6, .int (gI x6)), (7, .int (gI x7)), (9, .int (gI c40))]) [1, 2, 3, 4, 5, 6, 7, 8, 0] rfl ?_
    obtain ⟨j117, h⟩ := h
    exact t117 k3 hk3_ k12 hk12_ j117 x6 x7 c40 M39 h
  have t91 : ∀ (k3 : Int → gM → Prop), (∀ (x6 : Int), ∀ (M : gM), k3 x6 M → gW p l e (gRm 5 125) s m args below meth c D cy A H0 Q 10 kd ln rh 0 0 M 3 [(0, .ref (gad a0)), (1, .int (gI a1)), (2, .int (gI a2)), (3, .int (gI a3)), (4, .int (gI a4)), (5, .int (gI a5)), (6, .int (gI x6))] []) → ∀ (k12 : Int → Int → gM → Prop), (∀ (x6 : Int), ∀ (x7 : Int), ∀ (M : gM), k12 x6 x7 M → gW p l e (gRm 5 125) s m args below meth c D cy A H0 Q 10 kd ln rh 0 0 M 12 [(0, .ref (gad a0)), (1, .int (gI a1)), (2, .int (gI a2)), (3, .int (gI a3)), (4, .int (gI a4)), (5, .int (gI a5)), (6, .int (gI x6)), (7, .int (gI x7))] []) → ∀ (x6 : Int) (x7 : Int) (M : gM), wX7_backWhite_91 kd ln post a0 a1 a2 a3 a4 a5 k3 k12 x6 x7 M → gW p l e (gRm 5 125) s m args below meth c D cy A H0 Q 10 kd ln rh 0 0 M 91 [(0, .ref (gad a0)), (1, .int (gI a1)), (2, .int (gI a2)), (3, .int (gI a3)), (4, .int (gI a4)), (5, .int (gI a5)), (6, .int (gI x6)), (7, .int (gI x7))] [] := by
    intro k3 hk3_ k12 hk12_ x6 x7 M h
    unfold wX7_backWhite_91 at h
    refine q_iload_n C 1 rfl rfl dX7_backWhite_91 ?_
    obtain ⟨r33, h⟩ := h
    refine q_if_eq (tgt := 105) C r33 (by decide) dX7_backWhite_92 (fun b34 => ?_) (fun b34 => ?_)
    · have h := h.1 b34
      exact t105 k3 hk3_ k12 hk12_ x6 x7 M h
    · have h := h.2 b34
      refine q_iload C 6 rfl dX7_backWhite_95 ?_
      obtain ⟨r35, h⟩ := h
      refine q_if_eq (tgt := 105) C r35 (by decide) dX7_backWhite_97 (fun b36 => ?_) (fun b36 => ?_)
      · have h := h.1 b36
        exact t105 k3 hk3_ k12 hk12_ x6 x7 M h
      · have h := h.2 b36
        refine q_iload C 7 rfl dX7_backWhite_100 ?_
        obtain ⟨r37, h⟩ := h
        refine q_if_ne (tgt := 175) C r37 (by decide) dX7_backWhite_102 (fun b38 => ?_) (fun b38 => ?_)
        · have h := h.1 b38
          exact t175 k3 hk3_ k12 hk12_ x6 x7 M h
        · have h := h.2 b38
          exact t105 k3 hk3_ k12 hk12_ x6 x7 M h
  have t76 : ∀ (k3 : Int → gM → Prop), (∀ (x6 : Int), ∀ (M : gM), k3 x6 M → gW p l e (gRm 5 125) s m args below meth c D cy A H0 Q 10 kd ln rh 0 0 M 3 [(0, .ref (gad a0)), (1, .int (gI a1)), (2, .int (gI a2)), (3, .int (gI a3)), (4, .int (gI a4)), (5, .int (gI a5)), (6, .int (gI x6))] []) → ∀ (k12 : Int → Int → gM → Prop), (∀ (x6 : Int), ∀ (x7 : Int), ∀ (M : gM), k12 x6 x7 M → gW p l e (gRm 5 125) s m args below meth c D cy A H0 Q 10 kd ln rh 0 0 M 12 [(0, .ref (gad a0)), (1, .int (gI a1)), (2, .int (gI a2)), (3, .int (gI a3)), (4, .int (gI a4)), (5, .int (gI a5)), (6, .int (gI x6)), (7, .int (gI x7))] []) → ∀ (x6 : Int) (x7 : Int) (M : gM), wX7_backWhite_76 kd ln post a0 a1 a2 a3 a4 a5 k3 k12 x6 x7 M → gW p l e (gRm 5 125) s m args below meth c D cy A H0 Q 10 kd ln rh 0 0 M 76 [(0, .ref (gad a0)), (1, .int (gI a1)), (2, .int (gI a2)), (3, .int (gI a3)), (4, .int (gI a4)), (5, .int (gI a5)), (6, .int (gI x6)), (7, .int (gI x7))] [] := by
    intro k3 hk3_ k12 hk12_ x6 x7 M h
    unfold wX7_backWhite_76 at h
    refine q_iload_n C 1 rfl rfl dX7_backWhite_76 ?_
    refine q_iconst C dX7_backWhite_77 ?_
    obtain ⟨r27, h⟩ := h
    refine q_icmp_ge (tgt := 175) C r27 (show rng 2 by decide) (by decide) dX7_backWhite_78 (fun b28 => ?_) (fun b28 => ?_)
    · have h := h.1 b28
      exact t175 k3 hk3_ k12 hk12_ x6 x7 M h
    · have h := h.2 b28
      refine q_iload C 6 rfl dX7_backWhite_81 ?_
      obtain ⟨r29, h⟩ := h
      refine q_if_ne (tgt := 91) C r29 (by decide) dX7_backWhite_83 (fun b30 => ?_) (fun b30 => ?_)
      · have h := h.1 b30
        exact t91 k3 hk3_ k12 hk12_ x6 x7 M h
      · have h := h.2 b30
        refine q_iload C 7 rfl dX7_backWhite_86 ?_
        obtain ⟨r31, h⟩ := h
        refine q_if_eq (tgt := 175) C r31 (by decide) dX7_backWhite_88 (fun b32 => ?_) (fun b32 => ?_)
        · have h := h.1 b32
          exact t175 k3 hk3_ k12 hk12_ x6 x7 M h
        · have h := h.2 b32
          exact t91 k3 hk3_ k12 hk12_ x6 x7 M h
  have t41 : ∀ (k3 : Int → gM → Prop), (∀ (x6 : Int), ∀ (M : gM), k3 x6 M → gW p l e (gRm 5 125) s m args below meth c D cy A H0 Q 10 kd ln rh 0 0 M 3 [(0, .ref (gad a0)), (1, .int (gI a1)), (2, .int (gI a2)), (3, .int (gI a3)), (4, .int (gI a4)), (5, .int (gI a5)), (6, .int (gI x6))] []) → ∀ (k12 : Int → Int → gM → Prop), (∀ (x6 : Int), ∀ (x7 : Int), ∀ (M : gM), k12 x6 x7 M → gW p l e (gRm 5 125) s m args below meth c D cy A H0 Q 10 kd ln rh 0 0 M 12 [(0, .ref (gad a0)), (1, .int (gI a1)), (2, .int (gI a2)), (3, .int (gI a3)), (4, .int (gI a4)), (5, .int (gI a5)), (6, .int (gI x6)), (7, .int (gI x7))] []) → ∀ (x6 : Int) (x7 : Int) (y0 : Int) (M : gM), wX7_backWhite_41 kd ln post a0 a1 a2 a3 a4 a5 k3 k12 x6 x7 y0 M → gW p l e (gRm 5 125) s m args below meth c D cy A H0 Q 10 kd ln rh 0 0 M 41 [(0, .ref (gad a0)), (1, .int (gI a1)), (2, .int (gI a2)), (3, .int (gI a3)), (4, .int (gI a4)), (5, .int (gI a5)), (6, .int (gI x6)), (7, .int (gI x7))] [.int (gI y0)] := by
    intro k3 hk3_ k12 hk12_ x6 x7 y0 M h
    unfold wX7_backWhite_41 at h
    refine q_istore (lv' := [(8, .int (gI y0)), (0, .ref (gad a0)), (1, .int (gI a1)), (2, .int (gI a2)), (3, .int (gI a3)), (4, .int (gI a4)), (5, .int (gI a5)), (6, .int (gI x6)), (7, .int (gI x7))]) C (by decide) rfl dX7_backWhite_41 ?_
    refine q_iload C 0 rfl dX7_backWhite_43 ?_
    refine q_iconst C dX7_backWhite_45 ?_
    obtain ⟨r18, h⟩ := h
    refine q_icmp_eq (tgt := 76) C r18 (show rng (-1) by decide) (by decide) dX7_backWhite_46 (fun b19 => ?_) (fun b19 => ?_)
    · have h := h.1 b19
      refine q_lv (lv' := [(0, .ref (gad a0)), (1, .int (gI a1)), (2, .int (gI a2)), (3, .int (gI a3)), (4, .int (gI a4)), (5, .int (gI a5)), (6, .int (gI x6)), (7, .int (gI x7))]) [1, 2, 3, 4, 5, 6, 7, 8] rfl ?_
      exact t76 k3 hk3_ k12 hk12_ x6 x7 M h
    · have h := h.2 b19
      refine q_aload_n C 1 rfl rfl dX7_backWhite_49 ?_
      refine q_iload_n C 2 rfl rfl dX7_backWhite_50 ?_
      refine q_iload C 0 rfl dX7_backWhite_51 ?_
      refine q_iload_n C 4 rfl rfl dX7_backWhite_53 ?_
      refine q_iload C 5 rfl dX7_backWhite_54 ?_
      refine q_iconst C dX7_backWhite_56 ?_
      refine q_callVI (As := [.int (gI a1), .int (gI y0), .int (gI a3), .int (gI a4), .int (gI 0)]) (st := []) C vX7_159 kX7_isOpen ⟨Nat.le_of_ble_eq_true rfl, Nat.le_of_ble_eq_true rfl⟩ ⟨Nat.le_of_ble_eq_true rfl, Nat.le_of_ble_eq_true rfl⟩ rfl hk0 ⟨_, _, rfl⟩ (by decide) rfl (Nat.le_of_ble_eq_true rfl) (mX7_isOpen l D cy kd ln rh _ a0 a1 y0 a3 a4 0 M hk0 h) dX7_backWhite_57 (fun c21 M20 g22 h => ?_)
      have h := h g22
      refine q_if_eq (tgt := 76) C g22 (by decide) dX7_backWhite_60 (fun b23 => ?_) (fun b23 => ?_)
      · have h := h.1 b23
        refine q_lv (lv' := [(0, .ref (gad a0)), (1, .int (gI a1)), (2, .int (gI a2)), (3, .int (gI a3)), (4, .int (gI a4)), (5, .int (gI a5)), (6, .int (gI x6)), (7, .int (gI x7))]) [1, 2, 3, 4, 5, 6, 7, 8] rfl ?_
        exact t76 k3 hk3_ k12 hk12_ x6 x7 M20 h
      · have h := h.2 b23
        refine q_aload_n C 1 rfl rfl dX7_backWhite_63 ?_
        refine q_iload_n C 2 rfl rfl dX7_backWhite_64 ?_
        refine q_iload C 0 rfl dX7_backWhite_65 ?_
        refine q_iload_n C 4 rfl rfl dX7_backWhite_67 ?_
        refine q_iload C 5 rfl dX7_backWhite_68 ?_
        refine q_iconst C dX7_backWhite_70 ?_
        refine q_iload C 6 rfl dX7_backWhite_71 ?_
        refine q_callVV (As := [.int (gI a1), .int (gI y0), .int (gI a3), .int (gI a4), .int (gI 0), .int (gI a5)]) (st := []) C vX7_142 kX7_decide ⟨Nat.le_of_ble_eq_true rfl, Nat.le_of_ble_eq_true rfl⟩ ⟨Nat.le_of_ble_eq_true rfl, Nat.le_of_ble_eq_true rfl⟩ rfl hk0 ⟨_, _, rfl⟩ (by decide) rfl (Nat.le_of_ble_eq_true rfl) (mX7_decide l D cy kd ln rh _ a0 a1 y0 a3 a4 0 a5 M20 hk0 h) dX7_backWhite_73 (fun M24 h => ?_)
        refine q_lv (lv' := [(0, .ref (gad a0)), (1, .int (gI a1)), (2, .int (gI a2)), (3, .int (gI a3)), (4, .int (gI a4)), (5, .int (gI a5)), (6, .int (gI x6)), (7, .int (gI x7))]) [1, 2, 3, 4, 5, 6, 7, 8] rfl ?_
        exact t76 k3 hk3_ k12 hk12_ x6 x7 M24 h
  have t32 : ∀ (k3 : Int → gM → Prop), (∀ (x6 : Int), ∀ (M : gM), k3 x6 M → gW p l e (gRm 5 125) s m args below meth c D cy A H0 Q 10 kd ln rh 0 0 M 3 [(0, .ref (gad a0)), (1, .int (gI a1)), (2, .int (gI a2)), (3, .int (gI a3)), (4, .int (gI a4)), (5, .int (gI a5)), (6, .int (gI x6))] []) → ∀ (k12 : Int → Int → gM → Prop), (∀ (x6 : Int), ∀ (x7 : Int), ∀ (M : gM), k12 x6 x7 M → gW p l e (gRm 5 125) s m args below meth c D cy A H0 Q 10 kd ln rh 0 0 M 12 [(0, .ref (gad a0)), (1, .int (gI a1)), (2, .int (gI a2)), (3, .int (gI a3)), (4, .int (gI a4)), (5, .int (gI a5)), (6, .int (gI x6)), (7, .int (gI x7))] []) → ∀ (x6 : Int) (x7 : Int) (M : gM), wX7_backWhite_32 kd ln post a0 a1 a2 a3 a4 a5 k3 k12 x6 x7 M → gW p l e (gRm 5 125) s m args below meth c D cy A H0 Q 10 kd ln rh 0 0 M 32 [(0, .ref (gad a0)), (1, .int (gI a1)), (2, .int (gI a2)), (3, .int (gI a3)), (4, .int (gI a4)), (5, .int (gI a5)), (6, .int (gI x6)), (7, .int (gI x7))] [] := by
    intro k3 hk3_ k12 hk12_ x6 x7 M h
    unfold wX7_backWhite_32 at h
    refine q_aload_n C 0 rfl rfl dX7_backWhite_32 ?_
    refine q_iload_n C 2 rfl rfl dX7_backWhite_33 ?_
    refine q_iload C 6 rfl dX7_backWhite_34 ?_
    refine q_iload C 7 rfl dX7_backWhite_36 ?_
    refine q_callVI (As := [.int (gI a2), .int (gI x6), .int (gI x7)]) (st := []) C vX7_92 kX7_off ⟨Nat.le_of_ble_eq_true rfl, Nat.le_of_ble_eq_true rfl⟩ ⟨Nat.le_of_ble_eq_true rfl, Nat.le_of_ble_eq_true rfl⟩ rfl hk0 ⟨_, _, rfl⟩ (by decide) rfl (Nat.le_of_ble_eq_true rfl) (mX7_off l D cy kd ln rh _ a0 a2 x6 x7 M hk0 h) dX7_backWhite_38 (fun c59 M58 g60 h => ?_)
    have h := h g60
    exact t41 k3 hk3_ k12 hk12_ x6 x7 c59 M58 h
  have t12 : ∀ (k3 : Int → gM → Prop), (∀ (x6 : Int), ∀ (M : gM), k3 x6 M → gW p l e (gRm 5 125) s m args below meth c D cy A H0 Q 10 kd ln rh 0 0 M 3 [(0, .ref (gad a0)), (1, .int (gI a1)), (2, .int (gI a2)), (3, .int (gI a3)), (4, .int (gI a4)), (5, .int (gI a5)), (6, .int (gI x6))] []) → ∀ (n : Nat) (x6 : Int) (x7 : Int) (M : gM), wX7_backWhite_12 kd ln post a0 a1 a2 a3 a4 a5 k3 n x6 x7 M → gW p l e (gRm 5 125) s m args below meth c D cy A H0 Q 10 kd ln rh 0 0 M 12 [(0, .ref (gad a0)), (1, .int (gI a1)), (2, .int (gI a2)), (3, .int (gI a3)), (4, .int (gI a4)), (5, .int (gI a5)), (6, .int (gI x6)), (7, .int (gI x7))] [] := by
    intro k3 hk3_
    intro n
    induction n with
    | zero => intro x6 x7 M h; exact absurd h (by simp [wX7_backWhite_12])
    | succ n ih =>
      intro x6 x7 M h
      have hk12_ := ih
      rw [wX7_backWhite_12] at h
      refine q_iload C 7 rfl dX7_backWhite_12 ?_
      refine q_iconst C dX7_backWhite_14 ?_
      obtain ⟨r13, h⟩ := h
      refine q_icmp_gt (tgt := 181) C r13 (show rng 1 by decide) (by decide) dX7_backWhite_15 (fun b14 => ?_) (fun b14 => ?_)
      · have h := h.1 b14
        refine q_iinc (lv' := [(6, .int (gI (x6 + 1))), (0, .ref (gad a0)), (1, .int (gI a1)), (2, .int (gI a2)), (3, .int (gI a3)), (4, .int (gI a4)), (5, .int (gI a5)), (7, .int (gI x7))]) C 6 rfl (by decide) rfl dX7_backWhite_181 ?_
        refine q_goto (tgt := 3) C (by decide) dX7_backWhite_184 ?_
        refine q_lv (lv' := [(0, .ref (gad a0)), (1, .int (gI a1)), (2, .int (gI a2)), (3, .int (gI a3)), (4, .int (gI a4)), (5, .int (gI a5)), (6, .int (gI (x6 + 1)))]) [1, 2, 3, 4, 5, 6, 0] rfl ?_
        exact hk3_ (x6 + 1) M h
      · have h := h.2 b14
        refine q_iload C 6 rfl dX7_backWhite_18 ?_
        obtain ⟨r15, h⟩ := h
        refine q_if_ne (tgt := 32) C r15 (by decide) dX7_backWhite_20 (fun b16 => ?_) (fun b16 => ?_)
        · have h := h.1 b16
          exact t32 k3 hk3_ (wX7_backWhite_12 kd ln post a0 a1 a2 a3 a4 a5 k3 n) hk12_ x6 x7 M h
        · have h := h.2 b16
          refine q_iload C 7 rfl dX7_backWhite_23 ?_
          refine q_if_ne (tgt := 32) C r13 (by decide) dX7_backWhite_25 (fun b17 => ?_) (fun b17 => ?_)
          · have h := h.1 b17
            exact t32 k3 hk3_ (wX7_backWhite_12 kd ln post a0 a1 a2 a3 a4 a5 k3 n) hk12_ x6 x7 M h
          · have h := h.2 b17
            refine q_iconst C dX7_backWhite_28 ?_
            refine q_goto (tgt := 41) C (by decide) dX7_backWhite_29 ?_
            exact t41 k3 hk3_ (wX7_backWhite_12 kd ln post a0 a1 a2 a3 a4 a5 k3 n) hk12_ x6 x7 (-1) M h
  have t255 : ∀ (x6 : Int) (x7 : Int) (M : gM), wX7_backWhite_255 kd ln post a0 a1 a2 a3 a4 a5 x6 x7 M → gW p l e (gRm 5 125) s m args below meth c D cy A H0 Q 10 kd ln rh 0 0 M 255 [(0, .ref (gad a0)), (1, .int (gI a1)), (2, .int (gI a2)), (3, .int (gI a3)), (4, .int (gI a4)), (5, .int (gI a5)), (6, .int (gI x6)), (7, .int (gI x7))] [] := by
    intro  x6 x7 M h
    unfold wX7_backWhite_255 at h
    refine q_iload C 7 rfl dX7_backWhite_255 ?_
    obtain ⟨r70, h⟩ := h
    refine q_if_eq (tgt := 306) C r70 (by decide) dX7_backWhite_257 (fun b71 => ?_) (fun b71 => ?_)
    · have h := h.1 b71
      exact hret M _ _ dX7_backWhite_306 h
    · have h := h.2 b71
      refine q_iload C 4 rfl dX7_backWhite_260 ?_
      refine q_aload_n C 0 rfl rfl dX7_backWhite_262 ?_
      refine q_get (v := .int (gI (M a0 1 (-1)))) C fX7_7 hk0 rfl dX7_backWhite_263 (fun g72 => ?_)
      have h := h g72
      obtain ⟨r73, h⟩ := h
      refine q_idiv C r73 dX7_backWhite_266 ?_
      refine q_iconst C dX7_backWhite_267 ?_
      obtain ⟨r74, h⟩ := h
      refine q_icmp_ne (tgt := 306) C r74 (show rng 3 by decide) (by decide) dX7_backWhite_268 (fun b75 => ?_) (fun b75 => ?_)
      · have h := h.1 b75
        exact hret M _ _ dX7_backWhite_306 h
      · have h := h.2 b75
        refine q_aload_n C 0 rfl rfl dX7_backWhite_271 ?_
        refine q_iload_n C 1 rfl rfl dX7_backWhite_272 ?_
        refine q_iload_n C 2 rfl rfl dX7_backWhite_273 ?_
        refine q_iload_n C 3 rfl rfl dX7_backWhite_274 ?_
        refine q_iload C 6 rfl dX7_backWhite_275 ?_
        refine q_aload_n C 0 rfl rfl dX7_backWhite_277 ?_
        refine q_get (v := .int (gI (M a0 1 (-1)))) C fX7_7 hk0 rfl dX7_backWhite_278 (fun g76 => ?_)
        refine q_isub C dX7_backWhite_281 ?_
        refine q_iconst C dX7_backWhite_282 ?_
        refine q_callVI (As := [.int (gI a1), .int (gI a2), .int (gI a3), .int (gI (x6 - (M a0 1 (-1)))), .int (gI 0)]) (st := []) C vX7_159 kX7_isOpen ⟨Nat.le_of_ble_eq_true rfl, Nat.le_of_ble_eq_true rfl⟩ ⟨Nat.le_of_ble_eq_true rfl, Nat.le_of_ble_eq_true rfl⟩ rfl hk0 ⟨_, _, rfl⟩ (by decide) rfl (Nat.le_of_ble_eq_true rfl) (mX7_isOpen l D cy kd ln rh _ a0 a1 a2 a3 (x6 - (M a0 1 (-1))) 0 M hk0 h) dX7_backWhite_283 (fun c78 M77 g79 h => ?_)
        have h := h g79
        refine q_if_eq (tgt := 306) C g79 (by decide) dX7_backWhite_286 (fun b80 => ?_) (fun b80 => ?_)
        · have h := h.1 b80
          exact hret M77 _ _ dX7_backWhite_306 h
        · have h := h.2 b80
          refine q_aload_n C 0 rfl rfl dX7_backWhite_289 ?_
          refine q_iload_n C 1 rfl rfl dX7_backWhite_290 ?_
          refine q_iload_n C 2 rfl rfl dX7_backWhite_291 ?_
          refine q_iload_n C 3 rfl rfl dX7_backWhite_292 ?_
          refine q_iload C 6 rfl dX7_backWhite_293 ?_
          refine q_aload_n C 0 rfl rfl dX7_backWhite_295 ?_
          refine q_get (v := .int (gI (M77 a0 1 (-1)))) C fX7_7 hk0 rfl dX7_backWhite_296 (fun g81 => ?_)
          have h := h g81
          refine q_isub C dX7_backWhite_299 ?_
          refine q_iconst C dX7_backWhite_300 ?_
          refine q_iload C 5 rfl dX7_backWhite_301 ?_
          refine q_callVV (As := [.int (gI a1), .int (gI a2), .int (gI a3), .int (gI (x6 - (M77 a0 1 (-1)))), .int (gI 0), .int (gI a5)]) (st := []) C vX7_142 kX7_decide ⟨Nat.le_of_ble_eq_true rfl, Nat.le_of_ble_eq_true rfl⟩ ⟨Nat.le_of_ble_eq_true rfl, Nat.le_of_ble_eq_true rfl⟩ rfl hk0 ⟨_, _, rfl⟩ (by decide) rfl (Nat.le_of_ble_eq_true rfl) (mX7_decide l D cy kd ln rh _ a0 a1 a2 a3 (x6 - (M77 a0 1 (-1))) 0 a5 M77 hk0 h) dX7_backWhite_303 (fun M82 h => ?_)
          exact hret M82 _ _ dX7_backWhite_306 h
  have t223 : ∀ (x6 : Int) (y0 : Int) (M : gM), wX7_backWhite_223 kd ln post a0 a1 a2 a3 a4 a5 x6 y0 M → gW p l e (gRm 5 125) s m args below meth c D cy A H0 Q 10 kd ln rh 0 0 M 223 [(0, .ref (gad a0)), (1, .int (gI a1)), (2, .int (gI a2)), (3, .int (gI a3)), (4, .int (gI a4)), (5, .int (gI a5)), (6, .int (gI x6))] [.int (gI y0)] := by
    intro  x6 y0 M h
    unfold wX7_backWhite_223 at h
    refine q_istore (lv' := [(7, .int (gI y0)), (0, .ref (gad a0)), (1, .int (gI a1)), (2, .int (gI a2)), (3, .int (gI a3)), (4, .int (gI a4)), (5, .int (gI a5)), (6, .int (gI x6))]) C (by decide) rfl dX7_backWhite_223 ?_
    refine q_iload C 0 rfl dX7_backWhite_225 ?_
    obtain ⟨r61, h⟩ := h
    refine q_if_eq (tgt := 255) C r61 (by decide) dX7_backWhite_227 (fun b62 => ?_) (fun b62 => ?_)
    · have h := h.1 b62
      refine q_lv (lv' := [(0, .ref (gad a0)), (1, .int (gI a1)), (2, .int (gI a2)), (3, .int (gI a3)), (4, .int (gI a4)), (5, .int (gI a5)), (6, .int (gI x6)), (7, .int (gI y0))]) [1, 2, 3, 4, 5, 6, 7, 0] rfl ?_
      exact t255  x6 y0 M h
    · have h := h.2 b62
      refine q_aload_n C 1 rfl rfl dX7_backWhite_230 ?_
      refine q_iload_n C 2 rfl rfl dX7_backWhite_231 ?_
      refine q_iload_n C 3 rfl rfl dX7_backWhite_232 ?_
      refine q_iload_n C 4 rfl rfl dX7_backWhite_233 ?_
      refine q_iload C 7 rfl dX7_backWhite_234 ?_
      refine q_iconst C dX7_backWhite_236 ?_
      refine q_callVI (As := [.int (gI a1), .int (gI a2), .int (gI a3), .int (gI x6), .int (gI 0)]) (st := []) C vX7_159 kX7_isOpen ⟨Nat.le_of_ble_eq_true rfl, Nat.le_of_ble_eq_true rfl⟩ ⟨Nat.le_of_ble_eq_true rfl, Nat.le_of_ble_eq_true rfl⟩ rfl hk0 ⟨_, _, rfl⟩ (by decide) rfl (Nat.le_of_ble_eq_true rfl) (mX7_isOpen l D cy kd ln rh _ a0 a1 a2 a3 x6 0 M hk0 h) dX7_backWhite_237 (fun c64 M63 g65 h => ?_)
      have h := h g65
      refine q_if_eq (tgt := 255) C g65 (by decide) dX7_backWhite_240 (fun b66 => ?_) (fun b66 => ?_)
      · have h := h.1 b66
        refine q_lv (lv' := [(0, .ref (gad a0)), (1, .int (gI a1)), (2, .int (gI a2)), (3, .int (gI a3)), (4, .int (gI a4)), (5, .int (gI a5)), (6, .int (gI x6)), (7, .int (gI y0))]) [1, 2, 3, 4, 5, 6, 7, 0] rfl ?_
        exact t255  x6 y0 M63 h
      · have h := h.2 b66
        refine q_aload_n C 1 rfl rfl dX7_backWhite_243 ?_
        refine q_iload_n C 2 rfl rfl dX7_backWhite_244 ?_
        refine q_iload_n C 3 rfl rfl dX7_backWhite_245 ?_
        refine q_iload_n C 4 rfl rfl dX7_backWhite_246 ?_
        refine q_iload C 7 rfl dX7_backWhite_247 ?_
        refine q_iconst C dX7_backWhite_249 ?_
        refine q_iload C 6 rfl dX7_backWhite_250 ?_
        refine q_callVV (As := [.int (gI a1), .int (gI a2), .int (gI a3), .int (gI x6), .int (gI 0), .int (gI a5)]) (st := []) C vX7_142 kX7_decide ⟨Nat.le_of_ble_eq_true rfl, Nat.le_of_ble_eq_true rfl⟩ ⟨Nat.le_of_ble_eq_true rfl, Nat.le_of_ble_eq_true rfl⟩ rfl hk0 ⟨_, _, rfl⟩ (by decide) rfl (Nat.le_of_ble_eq_true rfl) (mX7_decide l D cy kd ln rh _ a0 a1 a2 a3 x6 0 a5 M63 hk0 h) dX7_backWhite_252 (fun M67 h => ?_)
        refine q_lv (lv' := [(0, .ref (gad a0)), (1, .int (gI a1)), (2, .int (gI a2)), (3, .int (gI a3)), (4, .int (gI a4)), (5, .int (gI a5)), (6, .int (gI x6)), (7, .int (gI y0))]) [1, 2, 3, 4, 5, 6, 7, 0] rfl ?_
        exact t255  x6 y0 M67 h
  have t222 : ∀ (x6 : Int) (M : gM), wX7_backWhite_222 kd ln post a0 a1 a2 a3 a4 a5 x6 M → gW p l e (gRm 5 125) s m args below meth c D cy A H0 Q 10 kd ln rh 0 0 M 222 [(0, .ref (gad a0)), (1, .int (gI a1)), (2, .int (gI a2)), (3, .int (gI a3)), (4, .int (gI a4)), (5, .int (gI a5)), (6, .int (gI x6))] [] := by
    intro  x6 M h
    unfold wX7_backWhite_222 at h
    refine q_iconst C dX7_backWhite_222 ?_
    exact t223  x6 0 M h
  have t3 : ∀ (n : Nat) (x6 : Int) (M : gM), wX7_backWhite_3 kd ln post a0 a1 a2 a3 a4 a5 n x6 M → gW p l e (gRm 5 125) s m args below meth c D cy A H0 Q 10 kd ln rh 0 0 M 3 [(0, .ref (gad a0)), (1, .int (gI a1)), (2, .int (gI a2)), (3, .int (gI a3)), (4, .int (gI a4)), (5, .int (gI a5)), (6, .int (gI x6))] [] := by
    intro n
    induction n with
    | zero => intro x6 M h; exact absurd h (by simp [wX7_backWhite_3])
    | succ n ih =>
      intro x6 M h
      have hk3_ := ih
      rw [wX7_backWhite_3] at h
      refine q_iload C 6 rfl dX7_backWhite_3 ?_
      refine q_iconst C dX7_backWhite_5 ?_
      obtain ⟨r1, h⟩ := h
      refine q_icmp_gt (tgt := 187) C r1 (show rng 1 by decide) (by decide) dX7_backWhite_6 (fun b2 => ?_) (fun b2 => ?_)
      · have h := h.1 b2
        refine q_iload_n C 1 rfl rfl dX7_backWhite_187 ?_
        refine q_iconst C dX7_backWhite_188 ?_
        obtain ⟨r3, h⟩ := h
        refine q_icmp_ne (tgt := 306) C r3 (show rng 2 by decide) (by decide) dX7_backWhite_189 (fun b4 => ?_) (fun b4 => ?_)
        · have h := h.1 b4
          exact hret M _ _ dX7_backWhite_306 h
        · have h := h.2 b4
          refine q_iload C 4 rfl dX7_backWhite_192 ?_
          refine q_aload_n C 0 rfl rfl dX7_backWhite_194 ?_
          refine q_get (v := .int (gI (M a0 1 (-1)))) C fX7_7 hk0 rfl dX7_backWhite_195 (fun g5 => ?_)
          have h := h g5
          refine q_isub C dX7_backWhite_198 ?_
          refine q_topi (fun v6 ev6 => ?_)
          have h := h v6 ev6
          refine q_istore (lv' := [(6, .int (gI v6)), (0, .ref (gad a0)), (1, .int (gI a1)), (2, .int (gI a2)), (3, .int (gI a3)), (4, .int (gI a4)), (5, .int (gI a5))]) C (by decide) rfl dX7_backWhite_199 ?_
          refine q_iload C 0 rfl dX7_backWhite_201 ?_
          obtain ⟨r7, h⟩ := h
          refine q_if_lt (tgt := 222) C r7 (by decide) dX7_backWhite_203 (fun b8 => ?_) (fun b8 => ?_)
          · have h := h.1 b8
            refine q_lv (lv' := [(0, .ref (gad a0)), (1, .int (gI a1)), (2, .int (gI a2)), (3, .int (gI a3)), (4, .int (gI a4)), (5, .int (gI a5)), (6, .int (gI v6))]) [1, 2, 3, 4, 5, 6, 0] rfl ?_
            exact t222  v6 M h
          · have h := h.2 b8
            refine q_iload C 0 rfl dX7_backWhite_206 ?_
            refine q_iload_n C 3 rfl rfl dX7_backWhite_208 ?_
            obtain ⟨r9, h⟩ := h
            refine q_icmp_eq (tgt := 222) C r7 r9 (by decide) dX7_backWhite_209 (fun b10 => ?_) (fun b10 => ?_)
            · have h := h.1 b10
              refine q_lv (lv' := [(0, .ref (gad a0)), (1, .int (gI a1)), (2, .int (gI a2)), (3, .int (gI a3)), (4, .int (gI a4)), (5, .int (gI a5)), (6, .int (gI v6))]) [1, 2, 3, 4, 5, 6, 0] rfl ?_
              exact t222  v6 M h
            · have h := h.2 b10
              refine q_iload C 0 rfl dX7_backWhite_212 ?_
              refine q_iload_n C 4 rfl rfl dX7_backWhite_214 ?_
              obtain ⟨r11, h⟩ := h
              refine q_icmp_eq (tgt := 222) C r7 r11 (by decide) dX7_backWhite_215 (fun b12 => ?_) (fun b12 => ?_)
              · have h := h.1 b12
                refine q_lv (lv' := [(0, .ref (gad a0)), (1, .int (gI a1)), (2, .int (gI a2)), (3, .int (gI a3)), (4, .int (gI a4)), (5, .int (gI a5)), (6, .int (gI v6))]) [1, 2, 3, 4, 5, 6, 0] rfl ?_
                exact t222  v6 M h
              · have h := h.2 b12
                refine q_iconst C dX7_backWhite_218 ?_
                refine q_goto (tgt := 223) C (by decide) dX7_backWhite_219 ?_
                refine q_lv (lv' := [(0, .ref (gad a0)), (1, .int (gI a1)), (2, .int (gI a2)), (3, .int (gI a3)), (4, .int (gI a4)), (5, .int (gI a5)), (6, .int (gI v6))]) [1, 2, 3, 4, 5, 6, 0] rfl ?_
                exact t223  v6 1 M h
      · have h := h.2 b2
        refine q_iconst C dX7_backWhite_9 ?_
        refine q_istore (lv' := [(7, .int (gI (-1))), (0, .ref (gad a0)), (1, .int (gI a1)), (2, .int (gI a2)), (3, .int (gI a3)), (4, .int (gI a4)), (5, .int (gI a5)), (6, .int (gI x6))]) C (by decide) rfl dX7_backWhite_10 ?_
        refine q_lv (lv' := [(0, .ref (gad a0)), (1, .int (gI a1)), (2, .int (gI a2)), (3, .int (gI a3)), (4, .int (gI a4)), (5, .int (gI a5)), (6, .int (gI x6)), (7, .int (gI (-1)))]) [1, 2, 3, 4, 5, 6, 7, 0] rfl ?_
        obtain ⟨j12, h⟩ := h
        exact t12 (wX7_backWhite_3 kd ln post a0 a1 a2 a3 a4 a5 n) hk3_ j12 x6 (-1) M h
  unfold wX7_backWhite at h
  refine q_iconst C dX7_backWhite_0 ?_
  refine q_istore (lv' := [(6, .int (gI (-1))), (0, .ref (gad a0)), (1, .int (gI a1)), (2, .int (gI a2)), (3, .int (gI a3)), (4, .int (gI a4)), (5, .int (gI a5))]) C (by decide) rfl dX7_backWhite_1 ?_
  refine q_lv (lv' := [(0, .ref (gad a0)), (1, .int (gI a1)), (2, .int (gI a2)), (3, .int (gI a3)), (4, .int (gI a4)), (5, .int (gI a5)), (6, .int (gI (-1)))]) [1, 2, 3, 4, 5, 6, 0] rfl ?_
  obtain ⟨j3, h⟩ := h
  exact t3  j3 (-1) M h
set_option maxHeartbeats 4000000 in
set_option maxRecDepth 100000 in
theorem mX7_distanceOf (l : Launch) (D : va_G) (cy : Nat → ClassId) (kd : gKd) (ln : gLn) (rh : gRh) (post : Int → gM → Prop) (a0 : Int) (a1 : Int) (a2 : Int) (a3 : Int) (a4 : Int) (a5 : Int) (M : gM) (hk0 : kd a0 = 7) (h : wX7_distanceOf kd ln post a0 a1 a2 a3 a4 a5 M) : gMI l D cy yX7_distanceOf cX7_distanceOf 6 .int 1 24 [.ref (gad a0), .int (gI a1), .int (gI a2), .int (gI a3), .int (gI a4), .int (gI a5)] kd ln rh M post := by
  refine gMI_of (own := RX7) (by decide) rfl (Nat.le_of_ble_eq_true rfl) ?_
  intro p e s m args below meth c A H0 Q C hret
  unfold wX7_distanceOf at h
  refine q_iload_n C 1 rfl rfl dX7_distanceOf_0 ?_
  refine q_iconst C dX7_distanceOf_1 ?_
  obtain ⟨r1, h⟩ := h
  refine q_icmp_ne (tgt := 9) C r1 (show rng (-1) by decide) (by decide) dX7_distanceOf_2 (fun b2 => ?_) (fun b2 => ?_)
  · have h := h.1 b2
    refine q_aload_n C 0 rfl rfl dX7_distanceOf_9 ?_
    obtain ⟨r3, h⟩ := h
    refine q_get (v := .ref (rh a0 4)) C fX7_21 hk0 (if_neg (Int.not_lt.mpr r3)) dX7_distanceOf_10 (fun g4 => ?_)
    refine q_ldc (n := 524288) C nX7_118 (by decide) dX7_distanceOf_13 ?_
    refine q_iload_n C 1 rfl rfl dX7_distanceOf_15 ?_
    refine q_imul C dX7_distanceOf_16 ?_
    refine q_aload_n C 0 rfl rfl dX7_distanceOf_17 ?_
    refine q_iload_n C 2 rfl rfl dX7_distanceOf_18 ?_
    refine q_iload_n C 3 rfl rfl dX7_distanceOf_19 ?_
    refine q_iload C 4 rfl dX7_distanceOf_20 ?_
    refine q_iload C 5 rfl dX7_distanceOf_22 ?_
    refine q_callVI (As := [.int (gI a2), .int (gI a3), .int (gI a4), .int (gI a5)]) (st := [.int (gI (524288 * a1)), .ref (rh a0 4)]) C vX7_119 kX7_key ⟨Nat.le_of_ble_eq_true rfl, Nat.le_of_ble_eq_true rfl⟩ ⟨Nat.le_of_ble_eq_true rfl, Nat.le_of_ble_eq_true rfl⟩ rfl hk0 ⟨_, _, rfl⟩ (by decide) rfl (Nat.le_of_ble_eq_true rfl) (mX7_key l D cy kd ln rh _ a0 a2 a3 a4 a5 M hk0 h) dX7_distanceOf_24 (fun c6 M5 g7 h => ?_)
    have h := h g7
    refine q_iadd C dX7_distanceOf_27 ?_
    obtain ⟨r8, h⟩ := h
    refine q_bald C hk0 rfl (fun _ q => q) r8 dX7_distanceOf_28 (fun g9 => ?_)
    have h := h g9
    refine q_iconst C dX7_distanceOf_29 ?_
    refine q_isub C dX7_distanceOf_30 ?_
    obtain ⟨r10, h⟩ := h
    exact hret ((M5 a0 4 ((524288 * a1) + c6)) - 1) M5 _ _ dX7_distanceOf_31 r10 h
  · have h := h.2 b2
    refine q_iconst C dX7_distanceOf_5 ?_
    refine q_goto (tgt := 31) C (by decide) dX7_distanceOf_6 ?_
    exact hret (-1) M _ _ dX7_distanceOf_31 (show rng (-1) by decide) h
set_option maxHeartbeats 4000000 in
set_option maxRecDepth 100000 in
theorem mX7_after (l : Launch) (D : va_G) (cy : Nat → ClassId) (kd : gKd) (ln : gLn) (rh : gRh) (post : Int → gM → Prop) (a0 : Int) (a1 : Int) (a2 : Int) (M : gM) (hk0 : kd a0 = 7) (h : wX7_after kd ln post a0 a1 a2 M) : gMI l D cy yX7_after cX7_after 3 .int 2 49 [.ref (gad a0), .int (gI a1), .int (gI a2)] kd ln rh M post := by
  refine gMI_of (own := RX7) (by decide) rfl (Nat.le_of_ble_eq_true rfl) ?_
  intro p e s m args below meth c A H0 Q C hret
  unfold wX7_after at h
  refine q_aload_n C 0 rfl rfl dX7_after_0 ?_
  refine q_aload_n C 0 rfl rfl dX7_after_1 ?_
  obtain ⟨r1, h⟩ := h
  refine q_get (v := .ref (rh a0 16)) C fX7_51 hk0 (if_neg (Int.not_lt.mpr r1)) dX7_after_2 (fun g2 => ?_)
  refine q_iload_n C 1 rfl rfl dX7_after_5 ?_
  obtain ⟨r3, h⟩ := h
  refine q_iald C hk0 rfl (fun _ q => q) r3 dX7_after_6 (fun g4 => ?_)
  have h := h g4
  refine q_aload_n C 0 rfl rfl dX7_after_7 ?_
  obtain ⟨r5, h⟩ := h
  refine q_get (v := .ref (rh a0 17)) C fX7_54 hk0 (if_neg (Int.not_lt.mpr r5)) dX7_after_8 (fun g6 => ?_)
  refine q_iload_n C 1 rfl rfl dX7_after_11 ?_
  obtain ⟨r7, h⟩ := h
  refine q_iald C hk0 rfl (fun _ q => q) r7 dX7_after_12 (fun g8 => ?_)
  have h := h g8
  refine q_aload_n C 0 rfl rfl dX7_after_13 ?_
  obtain ⟨r9, h⟩ := h
  refine q_get (v := .ref (rh a0 18)) C fX7_57 hk0 (if_neg (Int.not_lt.mpr r9)) dX7_after_14 (fun g10 => ?_)
  refine q_iload_n C 1 rfl rfl dX7_after_17 ?_
  obtain ⟨r11, h⟩ := h
  refine q_iald C hk0 rfl (fun _ q => q) r11 dX7_after_18 (fun g12 => ?_)
  have h := h g12
  refine q_aload_n C 0 rfl rfl dX7_after_19 ?_
  obtain ⟨r13, h⟩ := h
  refine q_get (v := .ref (rh a0 19)) C fX7_60 hk0 (if_neg (Int.not_lt.mpr r13)) dX7_after_20 (fun g14 => ?_)
  refine q_iload_n C 1 rfl rfl dX7_after_23 ?_
  obtain ⟨r15, h⟩ := h
  refine q_iald C hk0 rfl (fun _ q => q) r15 dX7_after_24 (fun g16 => ?_)
  have h := h g16
  refine q_iconst C dX7_after_25 ?_
  refine q_iload_n C 2 rfl rfl dX7_after_26 ?_
  refine q_isub C dX7_after_27 ?_
  refine q_callVI (As := [.int (gI (M a0 16 a1)), .int (gI (M a0 17 a1)), .int (gI (M a0 18 a1)), .int (gI (M a0 19 a1)), .int (gI (1 - a2))]) (st := []) C vX7_123 kX7_distanceOf ⟨Nat.le_of_ble_eq_true rfl, Nat.le_of_ble_eq_true rfl⟩ ⟨Nat.le_of_ble_eq_true rfl, Nat.le_of_ble_eq_true rfl⟩ rfl hk0 ⟨_, _, rfl⟩ (by decide) rfl (Nat.le_of_ble_eq_true rfl) (mX7_distanceOf l D cy kd ln rh _ a0 (M a0 16 a1) (M a0 17 a1) (M a0 18 a1) (M a0 19 a1) (1 - a2) M hk0 h) dX7_after_28 (fun c18 M17 g19 h => ?_)
  have h := h g19
  exact hret c18 M17 _ _ dX7_after_31 g19 h
set_option maxHeartbeats 4000000 in
set_option maxRecDepth 100000 in
theorem mX7_allDecided (l : Launch) (D : va_G) (cy : Nat → ClassId) (kd : gKd) (ln : gLn) (rh : gRh) (post : Int → gM → Prop) (a0 : Int) (a1 : Int) (a2 : Int) (a3 : Int) (a4 : Int) (M : gM) (hk0 : kd a0 = 7) (h : wX7_allDecided kd ln post a0 a1 a2 a3 a4 M) : gMI l D cy yX7_allDecided cX7_allDecided 6 .boolean 5 129 [.ref (gad a0), .int (gI a1), .int (gI a2), .int (gI a3), .int (gI a4)] kd ln rh M post := by
  refine gMI_ofZ (own := RX7) (by decide) rfl (Nat.le_of_ble_eq_true rfl) ?_
  intro p e s m args below meth c A H0 Q C hret
  have t13 : ∀ (n : Nat) (x5 : Int) (M : gM), wX7_allDecided_13 kd ln post a0 a1 a2 a3 a4 n x5 M → gW p l e (gRm 5 129) s m args below meth c D cy A H0 Q 6 kd ln rh 0 0 M 13 [(0, .ref (gad a0)), (5, .int (gI x5))] [] := by
    intro n
    induction n with
    | zero => intro x5 M h; exact absurd h (by simp [wX7_allDecided_13])
    | succ n ih =>
      intro x5 M h
      have hk13_ := ih
      rw [wX7_allDecided_13] at h
      refine q_iload C 1 rfl dX7_allDecided_13 ?_
      refine q_aload_n C 0 rfl rfl dX7_allDecided_15 ?_
      refine q_get (v := .int (gI (M a0 12 (-1)))) C fX7_104 hk0 rfl dX7_allDecided_16 (fun g4 => ?_)
      have h := h g4
      obtain ⟨r5, h⟩ := h
      refine q_icmp_ge (tgt := 41) C r5 g4 (by decide) dX7_allDecided_19 (fun b6 => ?_) (fun b6 => ?_)
      · have h := h.1 b6
        refine q_aload_n C 0 rfl rfl dX7_allDecided_41 ?_
        refine q_get (v := .int (gI (M a0 12 (-1)))) C fX7_104 hk0 rfl dX7_allDecided_42 (fun g7 => ?_)
        refine q_if_le (tgt := 52) C g4 (by decide) dX7_allDecided_45 (fun b8 => ?_) (fun b8 => ?_)
        · have h := h.1 b8
          refine q_iconst C dX7_allDecided_52 ?_
          exact hret 0 M _ _ dX7_allDecided_53 (Or.inl rfl) h
        · have h := h.2 b8
          refine q_iconst C dX7_allDecided_48 ?_
          refine q_goto (tgt := 53) C (by decide) dX7_allDecided_49 ?_
          exact hret 1 M _ _ dX7_allDecided_53 (Or.inr rfl) h
      · have h := h.2 b6
        refine q_aload_n C 0 rfl rfl dX7_allDecided_22 ?_
        refine q_iload C 1 rfl dX7_allDecided_23 ?_
        refine q_iconst C dX7_allDecided_25 ?_
        refine q_callVI (As := [.int (gI x5), .int (gI 1)]) (st := []) C vX7_166 kX7_after ⟨Nat.le_of_ble_eq_true rfl, Nat.le_of_ble_eq_true rfl⟩ ⟨Nat.le_of_ble_eq_true rfl, Nat.le_of_ble_eq_true rfl⟩ rfl hk0 ⟨_, _, rfl⟩ (by decide) rfl (Nat.le_of_ble_eq_true rfl) (mX7_after l D cy kd ln rh _ a0 x5 1 M hk0 h) dX7_allDecided_26 (fun c10 M9 g11 h => ?_)
        have h := h g11
        refine q_iconst C dX7_allDecided_29 ?_
        refine q_icmp_ne (tgt := 35) C g11 (show rng (-1) by decide) (by decide) dX7_allDecided_30 (fun b12 => ?_) (fun b12 => ?_)
        · have h := h.1 b12
          refine q_iinc (lv' := [(5, .int (gI (x5 + 1))), (0, .ref (gad a0))]) C 1 rfl (by decide) rfl dX7_allDecided_35 ?_
          refine q_goto (tgt := 13) C (by decide) dX7_allDecided_38 ?_
          refine q_lv (lv' := [(0, .ref (gad a0)), (5, .int (gI (x5 + 1)))]) [1, 0] rfl ?_
          exact hk13_ (x5 + 1) M9 h
        · have h := h.2 b12
          refine q_iconst C dX7_allDecided_33 ?_
          exact hret 0 M9 _ _ dX7_allDecided_34 (Or.inl rfl) h
  unfold wX7_allDecided at h
  refine q_aload_n C 0 rfl rfl dX7_allDecided_0 ?_
  refine q_iload_n C 1 rfl rfl dX7_allDecided_1 ?_
  refine q_iload_n C 2 rfl rfl dX7_allDecided_2 ?_
  refine q_iload_n C 3 rfl rfl dX7_allDecided_3 ?_
  refine q_iload C 4 rfl dX7_allDecided_4 ?_
  refine q_iconst C dX7_allDecided_6 ?_
  refine q_callVV (As := [.int (gI a1), .int (gI a2), .int (gI a3), .int (gI a4), .int (gI 1)]) (st := []) C vX7_138 kX7_find ⟨Nat.le_of_ble_eq_true rfl, Nat.le_of_ble_eq_true rfl⟩ ⟨Nat.le_of_ble_eq_true rfl, Nat.le_of_ble_eq_true rfl⟩ rfl hk0 ⟨_, _, rfl⟩ (by decide) rfl (Nat.le_of_ble_eq_true rfl) (mX7_find l D cy kd ln rh _ a0 a1 a2 a3 a4 1 M hk0 h) dX7_allDecided_7 (fun M1 h => ?_)
  refine q_iconst C dX7_allDecided_10 ?_
  refine q_istore (lv' := [(5, .int (gI 0)), (0, .ref (gad a0)), (1, .int (gI a1)), (2, .int (gI a2)), (3, .int (gI a3)), (4, .int (gI a4))]) C (by decide) rfl dX7_allDecided_11 ?_
  refine q_lv (lv' := [(0, .ref (gad a0)), (5, .int (gI 0))]) [1, 0] rfl ?_
  obtain ⟨j13, h⟩ := h
  exact t13  j13 0 M1 h
