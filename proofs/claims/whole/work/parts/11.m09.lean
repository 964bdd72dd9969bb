set_option maxHeartbeats 4000000 in
set_option maxRecDepth 100000 in
theorem mX7_layers (l : Launch) (D : va_G) (cy : Nat → ClassId) (kd : gKd) (ln : gLn) (rh : gRh) (post : gM → Prop) (a0 : Int) (a1 : Int) (M : gM) (hk0 : kd a0 = 7) (h : wX7_layers kd ln post a0 a1 M) : gMV l D cy yX7_layers cX7_layers 6 8 208 [.ref (gad a0), .int (gI a1)] kd ln rh M post := by
  refine gMV_of (own := RX7) (by decide) rfl (Nat.le_of_ble_eq_true rfl) ?_
  intro p e s m args below meth c A H0 Q C hret
  have t135 : ∀ (k44 : Int → gM → Prop), (∀ (x3 : Int), ∀ (M : gM), k44 x3 M → gW p l e (gRm 8 208) s m args below meth c D cy A H0 Q 6 kd ln rh 0 0 M 44 [(0, .ref (gad a0)), (1, .int (gI a1)), (3, .int (gI x3))] []) → ∀ (k55 : Int → Int → gM → Prop), (∀ (x3 : Int), ∀ (x4 : Int), ∀ (M : gM), k55 x3 x4 M → gW p l e (gRm 8 208) s m args below meth c D cy A H0 Q 6 kd ln rh 0 0 M 55 [(0, .ref (gad a0)), (1, .int (gI a1)), (3, .int (gI x3)), (4, .int (gI x4))] []) → ∀ (k67 : Int → Int → Int → gM → Prop), (∀ (x3 : Int), ∀ (x4 : Int), ∀ (x5 : Int), ∀ (M : gM), k67 x3 x4 x5 M → gW p l e (gRm 8 208) s m args below meth c D cy A H0 Q 6 kd ln rh 0 0 M 67 [(0, .ref (gad a0)), (1, .int (gI a1)), (3, .int (gI x3)), (4, .int (gI x4)), (5, .int (gI x5))] []) → ∀ (x3 : Int) (x4 : Int) (x5 : Int) (M : gM), wX7_layers_135 kd ln post a0 a1 k44 k55 k67 x3 x4 x5 M → gW p l e (gRm 8 208) s m args below meth c D cy A H0 Q 6 kd ln rh 0 0 M 135 [(0, .ref (gad a0)), (1, .int (gI a1)), (3, .int (gI x3)), (4, .int (gI x4)), (5, .int (gI x5))] [] := by
    intro k44 hk44_ k55 hk55_ k67 hk67_ x3 x4 x5 M h
    unfold wX7_layers_135 at h
    refine q_iinc (lv' := [(5, .int (gI (x5 + 1))), (0, .ref (gad a0)), (1, .int (gI a1)), (3, .int (gI x3)), (4, .int (gI x4))]) C 4 rfl (by decide) rfl dX7_layers_135 ?_
    refine q_goto (tgt := 67) C (by decide) dX7_layers_138 ?_
    refine q_lv (lv' := [(0, .ref (gad a0)), (1, .int (gI a1)), (3, .int (gI x3)), (4, .int (gI x4)), (5, .int (gI (x5 + 1)))]) [1, 2, 3, 4, 0] rfl ?_
    exact hk67_ x3 x4 (x5 + 1) M h
  have t67 : ∀ (k44 : Int → gM → Prop), (∀ (x3 : Int), ∀ (M : gM), k44 x3 M → gW p l e (gRm 8 208) s m args below meth c D cy A H0 Q 6 kd ln rh 0 0 M 44 [(0, .ref (gad a0)), (1, .int (gI a1)), (3, .int (gI x3))] []) → ∀ (k55 : Int → Int → gM → Prop), (∀ (x3 : Int), ∀ (x4 : Int), ∀ (M : gM), k55 x3 x4 M → gW p l e (gRm 8 208) s m args below meth c D cy A H0 Q 6 kd ln rh 0 0 M 55 [(0, .ref (gad a0)), (1, .int (gI a1)), (3, .int (gI x3)), (4, .int (gI x4))] []) → ∀ (n : Nat) (x3 : Int) (x4 : Int) (x5 : Int) (M : gM), wX7_layers_67 kd ln post a0 a1 k44 k55 n x3 x4 x5 M → gW p l e (gRm 8 208) s m args below meth c D cy A H0 Q 6 kd ln rh 0 0 M 67 [(0, .ref (gad a0)), (1, .int (gI a1)), (3, .int (gI x3)), (4, .int (gI x4)), (5, .int (gI x5))] [] := by
    intro k44 hk44_ k55 hk55_
    intro n
    induction n with
    | zero => intro x3 x4 x5 M h; exact absurd h (by simp [wX7_layers_67])
    | succ n ih =>
      intro x3 x4 x5 M h
      have hk67_ := ih
      rw [wX7_layers_67] at h
      refine q_iload C 4 rfl dX7_layers_67 ?_
      refine q_aload_n C 0 rfl rfl dX7_layers_69 ?_
      refine q_get (v := .int (gI (M a0 2 (-1)))) C fX7_13 hk0 rfl dX7_layers_70 (fun g17 => ?_)
      have h := h g17
      obtain ⟨r18, h⟩ := h
      refine q_icmp_ge (tgt := 141) C r18 g17 (by decide) dX7_layers_73 (fun b19 => ?_) (fun b19 => ?_)
      · have h := h.1 b19
        refine q_iinc (lv' := [(4, .int (gI (x4 + 1))), (0, .ref (gad a0)), (1, .int (gI a1)), (3, .int (gI x3)), (5, .int (gI x5))]) C 3 rfl (by decide) rfl dX7_layers_141 ?_
        refine q_goto (tgt := 55) C (by decide) dX7_layers_144 ?_
        refine q_lv (lv' := [(0, .ref (gad a0)), (1, .int (gI a1)), (3, .int (gI x3)), (4, .int (gI (x4 + 1)))]) [1, 2, 3, 0] rfl ?_
        exact hk55_ x3 (x4 + 1) M h
      · have h := h.2 b19
        refine q_aload_n C 0 rfl rfl dX7_layers_76 ?_
        refine q_iload_n C 1 rfl rfl dX7_layers_77 ?_
        refine q_iload_n C 2 rfl rfl dX7_layers_78 ?_
        refine q_iload C 3 rfl dX7_layers_79 ?_
        refine q_iload C 4 rfl dX7_layers_81 ?_
        refine q_iconst C dX7_layers_83 ?_
        refine q_callVI (As := [.int (gI a1), .int (gI x3), .int (gI x4), .int (gI x5), .int (gI 1)]) (st := []) C vX7_107 kX7_legal ⟨Nat.le_of_ble_eq_true rfl, Nat.le_of_ble_eq_true rfl⟩ ⟨Nat.le_of_ble_eq_true rfl, Nat.le_of_ble_eq_true rfl⟩ rfl hk0 ⟨_, _, rfl⟩ (by decide) rfl (Nat.le_of_ble_eq_true rfl) (mX7_legal l D cy kd ln rh _ a0 a1 x3 x4 x5 1 M hk0 h) dX7_layers_84 (fun c21 M20 g22 h => ?_)
        have h := h g22
        refine q_if_eq (tgt := 135) C g22 (by decide) dX7_layers_87 (fun b23 => ?_) (fun b23 => ?_)
        · have h := h.1 b23
          exact t135 k44 hk44_ k55 hk55_ (wX7_layers_67 kd ln post a0 a1 k44 k55 n) hk67_ x3 x4 x5 M20 h
        · have h := h.2 b23
          refine q_aload_n C 0 rfl rfl dX7_layers_90 ?_
          refine q_iload_n C 1 rfl rfl dX7_layers_91 ?_
          refine q_iload_n C 2 rfl rfl dX7_layers_92 ?_
          refine q_iload C 3 rfl dX7_layers_93 ?_
          refine q_iload C 4 rfl dX7_layers_95 ?_
          refine q_iload C 3 rfl dX7_layers_97 ?_
          refine q_callVI (As := [.int (gI a1), .int (gI x3), .int (gI x4), .int (gI x5), .int (gI x4)]) (st := []) C vX7_100 kX7_attacks ⟨Nat.le_of_ble_eq_true rfl, Nat.le_of_ble_eq_true rfl⟩ ⟨Nat.le_of_ble_eq_true rfl, Nat.le_of_ble_eq_true rfl⟩ rfl hk0 ⟨_, _, rfl⟩ (by decide) rfl (Nat.le_of_ble_eq_true rfl) (mX7_attacks l D cy kd ln rh _ a0 a1 x3 x4 x5 x4 M20 hk0 h) dX7_layers_99 (fun c25 M24 g26 h => ?_)
          have h := h g26
          refine q_if_eq (tgt := 135) C g26 (by decide) dX7_layers_102 (fun b27 => ?_) (fun b27 => ?_)
          · have h := h.1 b27
            exact t135 k44 hk44_ k55 hk55_ (wX7_layers_67 kd ln post a0 a1 k44 k55 n) hk67_ x3 x4 x5 M24 h
          · have h := h.2 b27
            refine q_aload_n C 0 rfl rfl dX7_layers_105 ?_
            refine q_iload_n C 1 rfl rfl dX7_layers_106 ?_
            refine q_iload_n C 2 rfl rfl dX7_layers_107 ?_
            refine q_iload C 3 rfl dX7_layers_108 ?_
            refine q_iload C 4 rfl dX7_layers_110 ?_
            refine q_iconst C dX7_layers_112 ?_
            refine q_callVV (As := [.int (gI a1), .int (gI x3), .int (gI x4), .int (gI x5), .int (gI 1)]) (st := []) C vX7_138 kX7_find ⟨Nat.le_of_ble_eq_true rfl, Nat.le_of_ble_eq_true rfl⟩ ⟨Nat.le_of_ble_eq_true rfl, Nat.le_of_ble_eq_true rfl⟩ rfl hk0 ⟨_, _, rfl⟩ (by decide) rfl (Nat.le_of_ble_eq_true rfl) (mX7_find l D cy kd ln rh _ a0 a1 x3 x4 x5 1 M24 hk0 h) dX7_layers_113 (fun M28 h => ?_)
            refine q_aload_n C 0 rfl rfl dX7_layers_116 ?_
            refine q_get (v := .int (gI (M28 a0 12 (-1)))) C fX7_104 hk0 rfl dX7_layers_117 (fun g31 => ?_)
            have h := h g31
            refine q_if_ne (tgt := 135) C g31 (by decide) dX7_layers_120 (fun b32 => ?_) (fun b32 => ?_)
            · have h := h.1 b32
              exact t135 k44 hk44_ k55 hk55_ (wX7_layers_67 kd ln post a0 a1 k44 k55 n) hk67_ x3 x4 x5 M28 h
            · have h := h.2 b32
              refine q_aload_n C 0 rfl rfl dX7_layers_123 ?_
              refine q_iload_n C 1 rfl rfl dX7_layers_124 ?_
              refine q_iload_n C 2 rfl rfl dX7_layers_125 ?_
              refine q_iload C 3 rfl dX7_layers_126 ?_
              refine q_iload C 4 rfl dX7_layers_128 ?_
              refine q_iconst C dX7_layers_130 ?_
              refine q_iconst C dX7_layers_131 ?_
              refine q_callVV (As := [.int (gI a1), .int (gI x3), .int (gI x4), .int (gI x5), .int (gI 1), .int (gI 0)]) (st := []) C vX7_142 kX7_decide ⟨Nat.le_of_ble_eq_true rfl, Nat.le_of_ble_eq_true rfl⟩ ⟨Nat.le_of_ble_eq_true rfl, Nat.le_of_ble_eq_true rfl⟩ rfl hk0 ⟨_, _, rfl⟩ (by decide) rfl (Nat.le_of_ble_eq_true rfl) (mX7_decide l D cy kd ln rh _ a0 a1 x3 x4 x5 1 0 M28 hk0 h) dX7_layers_132 (fun M33 h => ?_)
              exact t135 k44 hk44_ k55 hk55_ (wX7_layers_67 kd ln post a0 a1 k44 k55 n) hk67_ x3 x4 x5 M33 h
  have t55 : ∀ (k44 : Int → gM → Prop), (∀ (x3 : Int), ∀ (M : gM), k44 x3 M → gW p l e (gRm 8 208) s m args below meth c D cy A H0 Q 6 kd ln rh 0 0 M 44 [(0, .ref (gad a0)), (1, .int (gI a1)), (3, .int (gI x3))] []) → ∀ (n : Nat) (x3 : Int) (x4 : Int) (M : gM), wX7_layers_55 kd ln post a0 a1 k44 n x3 x4 M → gW p l e (gRm 8 208) s m args below meth c D cy A H0 Q 6 kd ln rh 0 0 M 55 [(0, .ref (gad a0)), (1, .int (gI a1)), (3, .int (gI x3)), (4, .int (gI x4))] [] := by
    intro k44 hk44_
    intro n
    induction n with
    | zero => intro x3 x4 M h; exact absurd h (by simp [wX7_layers_55])
    | succ n ih =>
      intro x3 x4 M h
      have hk55_ := ih
      rw [wX7_layers_55] at h
      refine q_iload C 3 rfl dX7_layers_55 ?_
      refine q_aload_n C 0 rfl rfl dX7_layers_57 ?_
      refine q_get (v := .int (gI (M a0 2 (-1)))) C fX7_13 hk0 rfl dX7_layers_58 (fun g14 => ?_)
      have h := h g14
      obtain ⟨r15, h⟩ := h
      refine q_icmp_ge (tgt := 147) C r15 g14 (by decide) dX7_layers_61 (fun b16 => ?_) (fun b16 => ?_)
      · have h := h.1 b16
        refine q_iinc (lv' := [(3, .int (gI (x3 + 1))), (0, .ref (gad a0)), (1, .int (gI a1)), (4, .int (gI x4))]) C 2 rfl (by decide) rfl dX7_layers_147 ?_
        refine q_goto (tgt := 44) C (by decide) dX7_layers_150 ?_
        refine q_lv (lv' := [(0, .ref (gad a0)), (1, .int (gI a1)), (3, .int (gI (x3 + 1)))]) [1, 2, 0] rfl ?_
        exact hk44_ (x3 + 1) M h
      · have h := h.2 b16
        refine q_iconst C dX7_layers_64 ?_
        refine q_istore (lv' := [(5, .int (gI 0)), (0, .ref (gad a0)), (1, .int (gI a1)), (3, .int (gI x3)), (4, .int (gI x4))]) C (by decide) rfl dX7_layers_65 ?_
        refine q_lv (lv' := [(0, .ref (gad a0)), (1, .int (gI a1)), (3, .int (gI x3)), (4, .int (gI x4)), (5, .int (gI 0))]) [1, 2, 3, 4, 0] rfl ?_
        obtain ⟨j67, h⟩ := h
        exact t67 k44 hk44_ (wX7_layers_55 kd ln post a0 a1 k44 n) hk55_ j67 x3 x4 0 M h
  have t220 : ∀ (k158 : Int → Int → gM → Prop), (∀ (x3 : Int), ∀ (x4 : Int), ∀ (M : gM), k158 x3 x4 M → gW p l e (gRm 8 208) s m args below meth c D cy A H0 Q 6 kd ln rh 0 0 M 158 [(0, .ref (gad a0)), (1, .int (gI a1)), (3, .int (gI x3)), (4, .int (gI x4))] []) → ∀ (x4 : Int) (y0 : Int) (M : gM), wX7_layers_220 kd ln post a0 a1 k158 x4 y0 M → gW p l e (gRm 8 208) s m args below meth c D cy A H0 Q 6 kd ln rh 0 0 M 220 [(0, .ref (gad a0)), (1, .int (gI a1)), (4, .int (gI x4))] [.int (gI y0)] := by
    intro k158 hk158_ x4 y0 M h
    unfold wX7_layers_220 at h
    refine q_istore_n (lv' := [(3, .int (gI y0)), (0, .ref (gad a0)), (1, .int (gI a1)), (4, .int (gI x4))]) C rfl (by decide) rfl dX7_layers_220 ?_
    refine q_iinc (lv' := [(4, .int (gI (x4 + 1))), (3, .int (gI y0)), (0, .ref (gad a0)), (1, .int (gI a1))]) C 3 rfl (by decide) rfl dX7_layers_221 ?_
    refine q_goto (tgt := 158) C (by decide) dX7_layers_224 ?_
    refine q_lv (lv' := [(0, .ref (gad a0)), (1, .int (gI a1)), (3, .int (gI y0)), (4, .int (gI (x4 + 1)))]) [2, 3, 1, 0] rfl ?_
    exact hk158_ y0 (x4 + 1) M h
  have t206 : ∀ (k158 : Int → Int → gM → Prop), (∀ (x3 : Int), ∀ (x4 : Int), ∀ (M : gM), k158 x3 x4 M → gW p l e (gRm 8 208) s m args below meth c D cy A H0 Q 6 kd ln rh 0 0 M 158 [(0, .ref (gad a0)), (1, .int (gI a1)), (3, .int (gI x3)), (4, .int (gI x4))] []) → ∀ (x3 : Int) (x4 : Int) (M : gM), wX7_layers_206 kd ln post a0 a1 k158 x3 x4 M → gW p l e (gRm 8 208) s m args below meth c D cy A H0 Q 6 kd ln rh 0 0 M 206 [(0, .ref (gad a0)), (1, .int (gI a1)), (3, .int (gI x3)), (4, .int (gI x4))] [] := by
    intro k158 hk158_ x3 x4 M h
    unfold wX7_layers_206 at h
    refine q_aload_n C 0 rfl rfl dX7_layers_206 ?_
    refine q_get (v := .int (gI (M a0 20 (-1)))) C fX7_134 hk0 rfl dX7_layers_207 (fun g53 => ?_)
    have h := h g53
    refine q_if_eq (tgt := 217) C g53 (by decide) dX7_layers_210 (fun b54 => ?_) (fun b54 => ?_)
    · have h := h.1 b54
      refine q_iload_n C 2 rfl rfl dX7_layers_217 ?_
      refine q_iconst C dX7_layers_218 ?_
      refine q_iadd C dX7_layers_219 ?_
      refine q_lv (lv' := [(0, .ref (gad a0)), (1, .int (gI a1)), (4, .int (gI x4))]) [0, 1, 3] rfl ?_
      exact t220 k158 hk158_ x4 (x3 + 1) M h
    · have h := h.2 b54
      refine q_iconst C dX7_layers_213 ?_
      refine q_goto (tgt := 220) C (by decide) dX7_layers_214 ?_
      refine q_lv (lv' := [(0, .ref (gad a0)), (1, .int (gI a1)), (4, .int (gI x4))]) [0, 1, 3] rfl ?_
      exact t220 k158 hk158_ x4 0 M h
  have t175 : ∀ (k158 : Int → Int → gM → Prop), (∀ (x3 : Int), ∀ (x4 : Int), ∀ (M : gM), k158 x3 x4 M → gW p l e (gRm 8 208) s m args below meth c D cy A H0 Q 6 kd ln rh 0 0 M 158 [(0, .ref (gad a0)), (1, .int (gI a1)), (3, .int (gI x3)), (4, .int (gI x4))] []) → ∀ (x3 : Int) (x4 : Int) (M : gM), wX7_layers_175 kd ln post a0 a1 k158 x3 x4 M → gW p l e (gRm 8 208) s m args below meth c D cy A H0 Q 6 kd ln rh 0 0 M 175 [(0, .ref (gad a0)), (1, .int (gI a1)), (3, .int (gI x3)), (4, .int (gI x4))] [] := by
    intro k158 hk158_ x3 x4 M h
    unfold wX7_layers_175 at h
    refine q_aload_n C 0 rfl rfl dX7_layers_175 ?_
    refine q_iconst C dX7_layers_176 ?_
    refine q_put (x := 0) (ty := .boolean) C fX7_134 hk0 (fun _ _ _ q => by cases q; rfl) (congrArg (fun z => Value.int (gI z)) gu_s) rfl rfl (show rng 0 by decide) (fun j q => absurd (show (0 : Nat) = j + 3 from q) (by omega)) dX7_layers_177 ?_
    refine q_aload_n C 0 rfl rfl dX7_layers_180 ?_
    refine q_iload_n C 1 rfl rfl dX7_layers_181 ?_
    refine q_iload C 3 rfl dX7_layers_182 ?_
    refine q_callVV (As := [.int (gI a1), .int (gI x4)]) (st := []) C vX7_146 kX7_layer ⟨Nat.le_of_ble_eq_true rfl, Nat.le_of_ble_eq_true rfl⟩ ⟨Nat.le_of_ble_eq_true rfl, Nat.le_of_ble_eq_true rfl⟩ rfl hk0 ⟨_, _, rfl⟩ (by decide) rfl (Nat.le_of_ble_eq_true rfl) (mX7_layer l D cy kd ln rh _ a0 a1 x4 (gu M a0 20 (-1) 0) hk0 h) dX7_layers_184 (fun M42 h => ?_)
    refine q_iload_n C 1 rfl rfl dX7_layers_187 ?_
    refine q_iconst C dX7_layers_188 ?_
    obtain ⟨r45, h⟩ := h
    refine q_icmp_ne (tgt := 206) C r45 (show rng 2 by decide) (by decide) dX7_layers_189 (fun b46 => ?_) (fun b46 => ?_)
    · have h := h.1 b46
      exact t206 k158 hk158_ x3 x4 M42 h
    · have h := h.2 b46
      refine q_iload C 3 rfl dX7_layers_192 ?_
      refine q_iconst C dX7_layers_194 ?_
      obtain ⟨r47, h⟩ := h
      refine q_irem C ⟨r47.1, r47.2, by decide, by decide⟩ dX7_layers_195 ?_
      refine q_iconst C dX7_layers_196 ?_
      obtain ⟨r48, h⟩ := h
      refine q_icmp_ne (tgt := 206) C r48 (show rng 1 by decide) (by decide) dX7_layers_197 (fun b49 => ?_) (fun b49 => ?_)
      · have h := h.1 b49
        exact t206 k158 hk158_ x3 x4 M42 h
      · have h := h.2 b49
        refine q_aload_n C 0 rfl rfl dX7_layers_200 ?_
        refine q_iload C 3 rfl dX7_layers_201 ?_
        refine q_callVV (As := [.int (gI x4)]) (st := []) C vX7_150 kX7_promotions ⟨Nat.le_of_ble_eq_true rfl, Nat.le_of_ble_eq_true rfl⟩ ⟨Nat.le_of_ble_eq_true rfl, Nat.le_of_ble_eq_true rfl⟩ rfl hk0 ⟨_, _, rfl⟩ (by decide) rfl (Nat.le_of_ble_eq_true rfl) (mX7_promotions l D cy kd ln rh _ a0 x4 M42 hk0 h) dX7_layers_203 (fun M50 h => ?_)
        exact t206 k158 hk158_ x3 x4 M50 h
  have t158 : ∀ (n : Nat) (x3 : Int) (x4 : Int) (M : gM), wX7_layers_158 kd ln post a0 a1 n x3 x4 M → gW p l e (gRm 8 208) s m args below meth c D cy A H0 Q 6 kd ln rh 0 0 M 158 [(0, .ref (gad a0)), (1, .int (gI a1)), (3, .int (gI x3)), (4, .int (gI x4))] [] := by
    intro n
    induction n with
    | zero => intro x3 x4 M h; exact absurd h (by simp [wX7_layers_158])
    | succ n ih =>
      intro x3 x4 M h
      have hk158_ := ih
      rw [wX7_layers_158] at h
      refine q_iload_n C 2 rfl rfl dX7_layers_158 ?_
      refine q_iconst C dX7_layers_159 ?_
      obtain ⟨r36, h⟩ := h
      refine q_icmp_lt (tgt := 175) C r36 (show rng 2 by decide) (by decide) dX7_layers_160 (fun b37 => ?_) (fun b37 => ?_)
      · have h := h.1 b37
        exact t175 (wX7_layers_158 kd ln post a0 a1 n) hk158_ x3 x4 M h
      · have h := h.2 b37
        refine q_iload C 3 rfl dX7_layers_163 ?_
        refine q_bipush C (by decide) dX7_layers_165 ?_
        obtain ⟨r38, h⟩ := h
        refine q_icmp_ge (tgt := 227) C r38 (show rng 100 by decide) (by decide) dX7_layers_167 (fun b39 => ?_) (fun b39 => ?_)
        · have h := h.1 b39
          exact hret M _ _ dX7_layers_227 h
        · have h := h.2 b39
          refine q_iload_n C 1 rfl rfl dX7_layers_170 ?_
          refine q_iconst C dX7_layers_171 ?_
          obtain ⟨r40, h⟩ := h
          refine q_icmp_ne (tgt := 227) C r40 (show rng 2 by decide) (by decide) dX7_layers_172 (fun b41 => ?_) (fun b41 => ?_)
          · have h := h.1 b41
            exact hret M _ _ dX7_layers_227 h
          · have h := h.2 b41
            exact t175 (wX7_layers_158 kd ln post a0 a1 n) hk158_ x3 x4 M h
  have t44 : ∀ (n : Nat) (x3 : Int) (M : gM), wX7_layers_44 kd ln post a0 a1 n x3 M → gW p l e (gRm 8 208) s m args below meth c D cy A H0 Q 6 kd ln rh 0 0 M 44 [(0, .ref (gad a0)), (1, .int (gI a1)), (3, .int (gI x3))] [] := by
    intro n
    induction n with
    | zero => intro x3 M h; exact absurd h (by simp [wX7_layers_44])
    | succ n ih =>
      intro x3 M h
      have hk44_ := ih
      rw [wX7_layers_44] at h
      refine q_iload_n C 2 rfl rfl dX7_layers_44 ?_
      refine q_aload_n C 0 rfl rfl dX7_layers_45 ?_
      refine q_get (v := .int (gI (M a0 2 (-1)))) C fX7_13 hk0 rfl dX7_layers_46 (fun g11 => ?_)
      have h := h g11
      obtain ⟨r12, h⟩ := h
      refine q_icmp_ge (tgt := 153) C r12 g11 (by decide) dX7_layers_49 (fun b13 => ?_) (fun b13 => ?_)
      · have h := h.1 b13
        refine q_iconst C dX7_layers_153 ?_
        refine q_istore_n (lv' := [(3, .int (gI 0)), (0, .ref (gad a0)), (1, .int (gI a1))]) C rfl (by decide) rfl dX7_layers_154 ?_
        refine q_iconst C dX7_layers_155 ?_
        refine q_istore (lv' := [(4, .int (gI 1)), (3, .int (gI 0)), (0, .ref (gad a0)), (1, .int (gI a1))]) C (by decide) rfl dX7_layers_156 ?_
        refine q_lv (lv' := [(0, .ref (gad a0)), (1, .int (gI a1)), (3, .int (gI 0)), (4, .int (gI 1))]) [2, 3, 1, 0] rfl ?_
        obtain ⟨j158, h⟩ := h
        exact t158  j158 0 1 M h
      · have h := h.2 b13
        refine q_iconst C dX7_layers_52 ?_
        refine q_istore (lv' := [(4, .int (gI 0)), (0, .ref (gad a0)), (1, .int (gI a1)), (3, .int (gI x3))]) C (by decide) rfl dX7_layers_53 ?_
        refine q_lv (lv' := [(0, .ref (gad a0)), (1, .int (gI a1)), (3, .int (gI x3)), (4, .int (gI 0))]) [1, 2, 3, 0] rfl ?_
        obtain ⟨j55, h⟩ := h
        exact t55 (wX7_layers_44 kd ln post a0 a1 n) hk44_ j55 x3 0 M h
  have t19 : ∀ (n : Nat) (x2 : Int) (x3 : Int) (M : gM), wX7_layers_19 kd ln post a0 a1 n x2 x3 M → gW p l e (gRm 8 208) s m args below meth c D cy A H0 Q 6 kd ln rh 0 0 M 19 [(0, .ref (gad a0)), (1, .int (gI a1)), (2, .int (gI x2)), (3, .int (gI x3))] [] := by
    intro n
    induction n with
    | zero => intro x2 x3 M h; exact absurd h (by simp [wX7_layers_19])
    | succ n ih =>
      intro x2 x3 M h
      have hk19_ := ih
      rw [wX7_layers_19] at h
      refine q_iload_n C 3 rfl rfl dX7_layers_19 ?_
      refine q_iload_n C 2 rfl rfl dX7_layers_20 ?_
      obtain ⟨r5, h⟩ := h
      obtain ⟨r6, h⟩ := h
      refine q_icmp_ge (tgt := 42) C r5 r6 (by decide) dX7_layers_21 (fun b7 => ?_) (fun b7 => ?_)
      · have h := h.1 b7
        refine q_iconst C dX7_layers_42 ?_
        refine q_istore_n (lv' := [(3, .int (gI 0)), (0, .ref (gad a0)), (1, .int (gI a1)), (2, .int (gI x2))]) C rfl (by decide) rfl dX7_layers_43 ?_
        refine q_lv (lv' := [(0, .ref (gad a0)), (1, .int (gI a1)), (3, .int (gI 0))]) [1, 2, 0] rfl ?_
        obtain ⟨j44, h⟩ := h
        exact t44  j44 0 M h
      · have h := h.2 b7
        refine q_aload_n C 0 rfl rfl dX7_layers_24 ?_
        obtain ⟨r8, h⟩ := h
        refine q_get (v := .ref (rh a0 4)) C fX7_21 hk0 (if_neg (Int.not_lt.mpr r8)) dX7_layers_25 (fun g9 => ?_)
        refine q_ldc (n := 524288) C nX7_118 (by decide) dX7_layers_28 ?_
        refine q_iload_n C 1 rfl rfl dX7_layers_30 ?_
        refine q_imul C dX7_layers_31 ?_
        refine q_iload_n C 3 rfl rfl dX7_layers_32 ?_
        refine q_iadd C dX7_layers_33 ?_
        refine q_iconst C dX7_layers_34 ?_
        obtain ⟨r10, h⟩ := h
        refine q_bast C hk0 rfl (rng8 (show (-128 : Int) ≤ 0 ∧ (0 : Int) < 128 by decide)) (show (-128 : Int) ≤ 0 ∧ (0 : Int) < 128 by decide) r10 dX7_layers_35 ?_
        refine q_iinc (lv' := [(3, .int (gI (x3 + 1))), (0, .ref (gad a0)), (1, .int (gI a1)), (2, .int (gI x2))]) C 3 rfl (by decide) rfl dX7_layers_36 ?_
        refine q_goto (tgt := 19) C (by decide) dX7_layers_39 ?_
        refine q_lv (lv' := [(0, .ref (gad a0)), (1, .int (gI a1)), (2, .int (gI x2)), (3, .int (gI (x3 + 1)))]) [1, 2, 3, 0] rfl ?_
        exact hk19_ x2 (x3 + 1) (gu M a0 4 ((524288 * a1) + x3) 0) h
  unfold wX7_layers at h
  refine q_iconst C dX7_layers_0 ?_
  refine q_aload_n C 0 rfl rfl dX7_layers_1 ?_
  refine q_get (v := .int (gI (M a0 2 (-1)))) C fX7_13 hk0 rfl dX7_layers_2 (fun g1 => ?_)
  have h := h g1
  refine q_imul C dX7_layers_5 ?_
  refine q_aload_n C 0 rfl rfl dX7_layers_6 ?_
  refine q_get (v := .int (gI (M a0 2 (-1)))) C fX7_13 hk0 rfl dX7_layers_7 (fun g2 => ?_)
  refine q_imul C dX7_layers_10 ?_
  refine q_aload_n C 0 rfl rfl dX7_layers_11 ?_
  refine q_get (v := .int (gI (M a0 2 (-1)))) C fX7_13 hk0 rfl dX7_layers_12 (fun g3 => ?_)
  refine q_imul C dX7_layers_15 ?_
  refine q_topi (fun v4 ev4 => ?_)
  have h := h v4 ev4
  refine q_istore_n (lv' := [(2, .int (gI v4)), (0, .ref (gad a0)), (1, .int (gI a1))]) C rfl (by decide) rfl dX7_layers_16 ?_
  refine q_iconst C dX7_layers_17 ?_
  refine q_istore_n (lv' := [(3, .int (gI 0)), (2, .int (gI v4)), (0, .ref (gad a0)), (1, .int (gI a1))]) C rfl (by decide) rfl dX7_layers_18 ?_
  refine q_lv (lv' := [(0, .ref (gad a0)), (1, .int (gI a1)), (2, .int (gI v4)), (3, .int (gI 0))]) [2, 3, 1, 0] rfl ?_
  obtain ⟨j19, h⟩ := h
  exact t19  j19 v4 0 M h
set_option maxHeartbeats 4000000 in
set_option maxRecDepth 100000 in
theorem mX7_least (l : Launch) (D : va_G) (cy : Nat → ClassId) (kd : gKd) (ln : gLn) (rh : gRh) (post : Int → gM → Prop) (a0 : Int) (a1 : Int) (a2 : Int) (a3 : Int) (a4 : Int) (a5 : Int) (M : gM) (hk0 : kd a0 = 7) (h : wX7_least kd ln post a0 a1 a2 a3 a4 a5 M) : gMI l D cy yX7_least cX7_least 9 .int 1 25 [.ref (gad a0), .int (gI a1), .int (gI a2), .int (gI a3), .int (gI a4), .int (gI a5)] kd ln rh M post := by
  refine gMI_of (own := RX7) (by decide) rfl (Nat.le_of_ble_eq_true rfl) ?_
  intro p e s m args below meth c A H0 Q C hret
  have t75 : ∀ (k15 : Int → Int → gM → Prop), (∀ (x6 : Int), ∀ (x7 : Int), ∀ (M : gM), k15 x6 x7 M → gW p l e (gRm 1 25) s m args below meth c D cy A H0 Q 9 kd ln rh 0 0 M 15 [(0, .ref (gad a0)), (1, .int (gI a1)), (2, .int (gI a2)), (3, .int (gI a3)), (4, .int (gI a4)), (5, .int (gI a5)), (6, .int (gI x6)), (7, .int (gI x7))] []) → ∀ (x7 : Int) (y0 : Int) (M : gM), wX7_least_75 kd ln post a0 a1 a2 a3 a4 a5 k15 x7 y0 M → gW p l e (gRm 1 25) s m args below meth c D cy A H0 Q 9 kd ln rh 0 0 M 75 [(0, .ref (gad a0)), (1, .int (gI a1)), (2, .int (gI a2)), (3, .int (gI a3)), (4, .int (gI a4)), (5, .int (gI a5)), (7, .int (gI x7))] [.int (gI y0)] := by
    intro k15 hk15_ x7 y0 M h
    unfold wX7_least_75 at h
    refine q_istore (lv' := [(6, .int (gI y0)), (0, .ref (gad a0)), (1, .int (gI a1)), (2, .int (gI a2)), (3, .int (gI a3)), (4, .int (gI a4)), (5, .int (gI a5)), (7, .int (gI x7))]) C (by decide) rfl dX7_least_75 ?_
    refine q_iinc (lv' := [(7, .int (gI (x7 + 1))), (6, .int (gI y0)), (0, .ref (gad a0)), (1, .int (gI a1)), (2, .int (gI a2)), (3, .int (gI a3)), (4, .int (gI a4)), (5, .int (gI a5))]) C 7 rfl (by decide) rfl dX7_least_77 ?_
    refine q_goto (tgt := 15) C (by decide) dX7_least_80 ?_
    refine q_lv (lv' := [(0, .ref (gad a0)), (1, .int (gI a1)), (2, .int (gI a2)), (3, .int (gI a3)), (4, .int (gI a4)), (5, .int (gI a5)), (6, .int (gI y0)), (7, .int (gI (x7 + 1)))]) [2, 3, 4, 5, 6, 7, 1, 0] rfl ?_
    exact hk15_ y0 (x7 + 1) M h
  have t28 : ∀ (k15 : Int → Int → gM → Prop), (∀ (x6 : Int), ∀ (x7 : Int), ∀ (M : gM), k15 x6 x7 M → gW p l e (gRm 1 25) s m args below meth c D cy A H0 Q 9 kd ln rh 0 0 M 15 [(0, .ref (gad a0)), (1, .int (gI a1)), (2, .int (gI a2)), (3, .int (gI a3)), (4, .int (gI a4)), (5, .int (gI a5)), (6, .int (gI x6)), (7, .int (gI x7))] []) → ∀ (x6 : Int) (x7 : Int) (y0 : Int) (y1 : Int) (M : gM), wX7_least_28 kd ln post a0 a1 a2 a3 a4 a5 k15 x6 x7 y0 y1 M → gW p l e (gRm 1 25) s m args below meth c D cy A H0 Q 9 kd ln rh 0 0 M 28 [(0, .ref (gad a0)), (1, .int (gI a1)), (2, .int (gI a2)), (3, .int (gI a3)), (4, .int (gI a4)), (5, .int (gI a5)), (6, .int (gI x6)), (7, .int (gI x7))] [.int (gI y0), .int (gI y1)] := by
    intro k15 hk15_ x6 x7 y0 y1 M h
    unfold wX7_least_28 at h
    obtain ⟨r6, h⟩ := h
    obtain ⟨r7, h⟩ := h
    refine q_icmp_ge (tgt := 83) C r6 r7 (by decide) dX7_least_28 (fun b8 => ?_) (fun b8 => ?_)
    · have h := h.1 b8
      refine q_iload C 6 rfl dX7_least_83 ?_
      obtain ⟨r9, h⟩ := h
      exact hret x6 M _ _ dX7_least_85 r9 h
    · have h := h.2 b8
      refine q_aload_n C 0 rfl rfl dX7_least_31 ?_
      refine q_aload_n C 0 rfl rfl dX7_least_32 ?_
      refine q_iload_n C 2 rfl rfl dX7_least_33 ?_
      refine q_iload C 7 rfl dX7_least_34 ?_
      refine q_callVI (As := [.int (gI a2), .int (gI x7)]) (st := [.ref (gad a0)]) C vX7_170 kX7_image ⟨Nat.le_of_ble_eq_true rfl, Nat.le_of_ble_eq_true rfl⟩ ⟨Nat.le_of_ble_eq_true rfl, Nat.le_of_ble_eq_true rfl⟩ rfl hk0 ⟨_, _, rfl⟩ (by decide) rfl (Nat.le_of_ble_eq_true rfl) (mX7_image l D cy kd ln rh _ a0 a2 x7 M hk0 h) dX7_least_36 (fun c11 M10 g12 h => ?_)
      have h := h g12
      refine q_aload_n C 0 rfl rfl dX7_least_39 ?_
      refine q_iload_n C 3 rfl rfl dX7_least_40 ?_
      refine q_iload C 7 rfl dX7_least_41 ?_
      refine q_callVI (As := [.int (gI a3), .int (gI x7)]) (st := [.int (gI c11), .ref (gad a0)]) C vX7_170 kX7_image ⟨Nat.le_of_ble_eq_true rfl, Nat.le_of_ble_eq_true rfl⟩ ⟨Nat.le_of_ble_eq_true rfl, Nat.le_of_ble_eq_true rfl⟩ rfl hk0 ⟨_, _, rfl⟩ (by decide) rfl (Nat.le_of_ble_eq_true rfl) (mX7_image l D cy kd ln rh _ a0 a3 x7 M10 hk0 h) dX7_least_43 (fun c14 M13 g15 h => ?_)
      have h := h g15
      refine q_aload_n C 0 rfl rfl dX7_least_46 ?_
      refine q_iload C 4 rfl dX7_least_47 ?_
      refine q_iload C 7 rfl dX7_least_49 ?_
      refine q_callVI (As := [.int (gI a4), .int (gI x7)]) (st := [.int (gI c14), .int (gI c11), .ref (gad a0)]) C vX7_170 kX7_image ⟨Nat.le_of_ble_eq_true rfl, Nat.le_of_ble_eq_true rfl⟩ ⟨Nat.le_of_ble_eq_true rfl, Nat.le_of_ble_eq_true rfl⟩ rfl hk0 ⟨_, _, rfl⟩ (by decide) rfl (Nat.le_of_ble_eq_true rfl) (mX7_image l D cy kd ln rh _ a0 a4 x7 M13 hk0 h) dX7_least_51 (fun c17 M16 g18 h => ?_)
      have h := h g18
      refine q_iload C 5 rfl dX7_least_54 ?_
      refine q_callVI (As := [.int (gI c11), .int (gI c14), .int (gI c17), .int (gI a5)]) (st := []) C vX7_119 kX7_key ⟨Nat.le_of_ble_eq_true rfl, Nat.le_of_ble_eq_true rfl⟩ ⟨Nat.le_of_ble_eq_true rfl, Nat.le_of_ble_eq_true rfl⟩ rfl hk0 ⟨_, _, rfl⟩ (by decide) rfl (Nat.le_of_ble_eq_true rfl) (mX7_key l D cy kd ln rh _ a0 c11 c14 c17 a5 M16 hk0 h) dX7_least_56 (fun c20 M19 g21 h => ?_)
      have h := h g21
      refine q_istore (lv' := [(8, .int (gI c20)), (0, .ref (gad a0)), (1, .int (gI a1)), (2, .int (gI a2)), (3, .int (gI a3)), (4, .int (gI a4)), (5, .int (gI a5)), (6, .int (gI x6)), (7, .int (gI x7))]) C (by decide) rfl dX7_least_59 ?_
      refine q_iload C 0 rfl dX7_least_61 ?_
      refine q_iload C 7 rfl dX7_least_63 ?_
      obtain ⟨r22, h⟩ := h
      refine q_icmp_ge (tgt := 73) C g21 r22 (by decide) dX7_least_65 (fun b23 => ?_) (fun b23 => ?_)
      · have h := h.1 b23
        refine q_iload C 7 rfl dX7_least_73 ?_
        refine q_lv (lv' := [(0, .ref (gad a0)), (1, .int (gI a1)), (2, .int (gI a2)), (3, .int (gI a3)), (4, .int (gI a4)), (5, .int (gI a5)), (7, .int (gI x7))]) [1, 2, 3, 4, 5, 6, 8] rfl ?_
        exact t75 k15 hk15_ x7 x6 M19 h
      · have h := h.2 b23
        refine q_iload C 0 rfl dX7_least_68 ?_
        refine q_goto (tgt := 75) C (by decide) dX7_least_70 ?_
        refine q_lv (lv' := [(0, .ref (gad a0)), (1, .int (gI a1)), (2, .int (gI a2)), (3, .int (gI a3)), (4, .int (gI a4)), (5, .int (gI a5)), (7, .int (gI x7))]) [1, 2, 3, 4, 5, 6, 8] rfl ?_
        exact t75 k15 hk15_ x7 c20 M19 h
  have t15 : ∀ (n : Nat) (x6 : Int) (x7 : Int) (M : gM), wX7_least_15 kd ln post a0 a1 a2 a3 a4 a5 n x6 x7 M → gW p l e (gRm 1 25) s m args below meth c D cy A H0 Q 9 kd ln rh 0 0 M 15 [(0, .ref (gad a0)), (1, .int (gI a1)), (2, .int (gI a2)), (3, .int (gI a3)), (4, .int (gI a4)), (5, .int (gI a5)), (6, .int (gI x6)), (7, .int (gI x7))] [] := by
    intro n
    induction n with
    | zero => intro x6 x7 M h; exact absurd h (by simp [wX7_least_15])
    | succ n ih =>
      intro x6 x7 M h
      have hk15_ := ih
      rw [wX7_least_15] at h
      refine q_iload C 7 rfl dX7_least_15 ?_
      refine q_iload_n C 1 rfl rfl dX7_least_17 ?_
      refine q_iconst C dX7_least_18 ?_
      obtain ⟨r4, h⟩ := h
      refine q_icmp_ne (tgt := 26) C r4 (show rng 2 by decide) (by decide) dX7_least_19 (fun b5 => ?_) (fun b5 => ?_)
      · have h := h.1 b5
        refine q_bipush C (by decide) dX7_least_26 ?_
        exact t28 (wX7_least_15 kd ln post a0 a1 a2 a3 a4 a5 n) hk15_ x6 x7 8 x7 M h
      · have h := h.2 b5
        refine q_iconst C dX7_least_22 ?_
        refine q_goto (tgt := 28) C (by decide) dX7_least_23 ?_
        exact t28 (wX7_least_15 kd ln post a0 a1 a2 a3 a4 a5 n) hk15_ x6 x7 2 x7 M h
  unfold wX7_least at h
  refine q_aload_n C 0 rfl rfl dX7_least_0 ?_
  refine q_iload_n C 2 rfl rfl dX7_least_1 ?_
  refine q_iload_n C 3 rfl rfl dX7_least_2 ?_
  refine q_iload C 4 rfl dX7_least_3 ?_
  refine q_iload C 5 rfl dX7_least_5 ?_
  refine q_callVI (As := [.int (gI a2), .int (gI a3), .int (gI a4), .int (gI a5)]) (st := []) C vX7_119 kX7_key ⟨Nat.le_of_ble_eq_true rfl, Nat.le_of_ble_eq_true rfl⟩ ⟨Nat.le_of_ble_eq_true rfl, Nat.le_of_ble_eq_true rfl⟩ rfl hk0 ⟨_, _, rfl⟩ (by decide) rfl (Nat.le_of_ble_eq_true rfl) (mX7_key l D cy kd ln rh _ a0 a2 a3 a4 a5 M hk0 h) dX7_least_7 (fun c2 M1 g3 h => ?_)
  have h := h g3
  refine q_istore (lv' := [(6, .int (gI c2)), (0, .ref (gad a0)), (1, .int (gI a1)), (2, .int (gI a2)), (3, .int (gI a3)), (4, .int (gI a4)), (5, .int (gI a5))]) C (by decide) rfl dX7_least_10 ?_
  refine q_iconst C dX7_least_12 ?_
  refine q_istore (lv' := [(7, .int (gI 1)), (6, .int (gI c2)), (0, .ref (gad a0)), (1, .int (gI a1)), (2, .int (gI a2)), (3, .int (gI a3)), (4, .int (gI a4)), (5, .int (gI a5))]) C (by decide) rfl dX7_least_13 ?_
  refine q_lv (lv' := [(0, .ref (gad a0)), (1, .int (gI a1)), (2, .int (gI a2)), (3, .int (gI a3)), (4, .int (gI a4)), (5, .int (gI a5)), (6, .int (gI c2)), (7, .int (gI 1))]) [2, 3, 4, 5, 6, 7, 1, 0] rfl ?_
  obtain ⟨j15, h⟩ := h
  exact t15  j15 c2 1 M1 h
set_option maxHeartbeats 4000000 in
set_option maxRecDepth 100000 in
theorem mX7_line (l : Launch) (D : va_G) (cy : Nat → ClassId) (kd : gKd) (ln : gLn) (rh : gRh) (post : Int → gM → Prop) (a0 : Int) (a1 : Int) (a2 : Int) (a3 : Int) (a4 : Int) (a5 : Int) (M : gM) (hk0 : kd a0 = 7) (h : wX7_line kd ln post a0 a1 a2 a3 a4 a5 M) : gMI l D cy yX7_line cX7_line 11 .int 5 129 [.ref (gad a0), .int (gI a1), .int (gI a2), .int (gI a3), .int (gI a4), .int (gI a5)] kd ln rh M post := by
  refine gMI_of (own := RX7) (by decide) rfl (Nat.le_of_ble_eq_true rfl) ?_
  intro p e s m args below meth c A H0 Q C hret
  have t129 : ∀ (k58 : Int → Int → Int → gM → Prop), (∀ (x6 : Int), ∀ (x7 : Int), ∀ (x8 : Int), ∀ (M : gM), k58 x6 x7 x8 M → gW p l e (gRm 5 129) s m args below meth c D cy A H0 Q 11 kd ln rh 0 0 M 58 [(0, .ref (gad a0)), (6, .int (gI x6)), (7, .int (gI x7)), (8, .int (gI x8))] []) → ∀ (n : Nat) (x6 : Int) (x7 : Int) (x8 : Int) (x9 : Int) (x10 : Int) (M : gM), wX7_line_129 kd ln post a0 a1 a2 a3 a4 a5 k58 n x6 x7 x8 x9 x10 M → gW p l e (gRm 5 129) s m args below meth c D cy A H0 Q 11 kd ln rh 0 0 M 129 [(0, .ref (gad a0)), (6, .int (gI x6)), (7, .int (gI x7)), (8, .int (gI x8)), (9, .int (gI x9)), (10, .int (gI x10))] [] := by
    intro k58 hk58_
    intro n
    induction n with
    | zero => intro x6 x7 x8 x9 x10 M h; exact absurd h (by simp [wX7_line_129])
    | succ n ih =>
      intro x6 x7 x8 x9 x10 M h
      have hk129_ := ih
      rw [wX7_line_129] at h
      refine q_aload_n C 0 rfl rfl dX7_line_129 ?_
      refine q_iload C 5 rfl dX7_line_130 ?_
      refine q_iload C 4 rfl dX7_line_132 ?_
      refine q_iload C 1 rfl dX7_line_134 ?_
      refine q_iload C 3 rfl dX7_line_136 ?_
      refine q_isub C dX7_line_138 ?_
      refine q_callVI (As := [.int (gI x10), .int (gI x9), .int (gI (x6 - x8))]) (st := []) C vX7_196 kX7_isBest ⟨Nat.le_of_ble_eq_true rfl, Nat.le_of_ble_eq_true rfl⟩ ⟨Nat.le_of_ble_eq_true rfl, Nat.le_of_ble_eq_true rfl⟩ rfl hk0 ⟨_, _, rfl⟩ (by decide) rfl (Nat.le_of_ble_eq_true rfl) (mX7_isBest l D cy kd ln rh _ a0 x10 x9 (x6 - x8) M hk0 h) dX7_line_139 (fun c36 M35 g37 h => ?_)
      have h := h g37
      refine q_if_ne (tgt := 151) C g37 (by decide) dX7_line_142 (fun b38 => ?_) (fun b38 => ?_)
      · have h := h.1 b38
        refine q_aload_n C 0 rfl rfl dX7_line_151 ?_
        refine q_iload C 3 rfl dX7_line_152 ?_
        refine q_iconst C dX7_line_154 ?_
        refine q_iadd C dX7_line_155 ?_
        refine q_aload_n C 0 rfl rfl dX7_line_156 ?_
        obtain ⟨r39, h⟩ := h
        refine q_get (v := .ref (rh a0 16)) C fX7_51 hk0 (if_neg (Int.not_lt.mpr r39)) dX7_line_157 (fun g40 => ?_)
        refine q_iload C 5 rfl dX7_line_160 ?_
        obtain ⟨r41, h⟩ := h
        refine q_iald C hk0 rfl (fun _ q => q) r41 dX7_line_162 (fun g42 => ?_)
        have h := h g42
        refine q_aload_n C 0 rfl rfl dX7_line_163 ?_
        obtain ⟨r43, h⟩ := h
        refine q_get (v := .ref (rh a0 17)) C fX7_54 hk0 (if_neg (Int.not_lt.mpr r43)) dX7_line_164 (fun g44 => ?_)
        refine q_iload C 5 rfl dX7_line_167 ?_
        obtain ⟨r45, h⟩ := h
        refine q_iald C hk0 rfl (fun _ q => q) r45 dX7_line_169 (fun g46 => ?_)
        have h := h g46
        refine q_aload_n C 0 rfl rfl dX7_line_170 ?_
        obtain ⟨r47, h⟩ := h
        refine q_get (v := .ref (rh a0 18)) C fX7_57 hk0 (if_neg (Int.not_lt.mpr r47)) dX7_line_171 (fun g48 => ?_)
        refine q_iload C 5 rfl dX7_line_174 ?_
        obtain ⟨r49, h⟩ := h
        refine q_iald C hk0 rfl (fun _ q => q) r49 dX7_line_176 (fun g50 => ?_)
        have h := h g50
        refine q_aload_n C 0 rfl rfl dX7_line_177 ?_
        obtain ⟨r51, h⟩ := h
        refine q_get (v := .ref (rh a0 19)) C fX7_60 hk0 (if_neg (Int.not_lt.mpr r51)) dX7_line_178 (fun g52 => ?_)
        refine q_iload C 5 rfl dX7_line_181 ?_
        obtain ⟨r53, h⟩ := h
        refine q_iald C hk0 rfl (fun _ q => q) r53 dX7_line_183 (fun g54 => ?_)
        have h := h g54
        refine q_iconst C dX7_line_184 ?_
        refine q_iload C 4 rfl dX7_line_185 ?_
        refine q_isub C dX7_line_187 ?_
        refine q_callVV (As := [.int (gI (x8 + 1)), .int (gI (M35 a0 16 x10)), .int (gI (M35 a0 17 x10)), .int (gI (M35 a0 18 x10)), .int (gI (M35 a0 19 x10)), .int (gI (1 - x9))]) (st := []) C vX7_199 kX7_keep ⟨Nat.le_of_ble_eq_true rfl, Nat.le_of_ble_eq_true rfl⟩ ⟨Nat.le_of_ble_eq_true rfl, Nat.le_of_ble_eq_true rfl⟩ rfl hk0 ⟨_, _, rfl⟩ (by decide) rfl (Nat.le_of_ble_eq_true rfl) (mX7_keep l D cy kd ln rh _ a0 (x8 + 1) (M35 a0 16 x10) (M35 a0 17 x10) (M35 a0 18 x10) (M35 a0 19 x10) (1 - x9) M35 hk0 h) dX7_line_188 (fun M55 h => ?_)
        refine q_iinc (lv' := [(8, .int (gI (x8 + 1))), (0, .ref (gad a0)), (6, .int (gI x6)), (7, .int (gI x7)), (9, .int (gI x9)), (10, .int (gI x10))]) C 3 rfl (by decide) rfl dX7_line_191 ?_
        refine q_goto (tgt := 58) C (by decide) dX7_line_194 ?_
        refine q_lv (lv' := [(0, .ref (gad a0)), (6, .int (gI x6)), (7, .int (gI x7)), (8, .int (gI (x8 + 1)))]) [1, 2, 3, 0] rfl ?_
        exact hk58_ x6 x7 (x8 + 1) M55 h
      · have h := h.2 b38
        refine q_iinc (lv' := [(10, .int (gI (x10 + 1))), (0, .ref (gad a0)), (6, .int (gI x6)), (7, .int (gI x7)), (8, .int (gI x8)), (9, .int (gI x9))]) C 5 rfl (by decide) rfl dX7_line_145 ?_
        refine q_goto (tgt := 129) C (by decide) dX7_line_148 ?_
        refine q_lv (lv' := [(0, .ref (gad a0)), (6, .int (gI x6)), (7, .int (gI x7)), (8, .int (gI x8)), (9, .int (gI x9)), (10, .int (gI (x10 + 1)))]) [1, 2, 3, 4, 5, 0] rfl ?_
        exact hk129_ x6 x7 x8 x9 (x10 + 1) M35 h
  have t58 : ∀ (n : Nat) (x6 : Int) (x7 : Int) (x8 : Int) (M : gM), wX7_line_58 kd ln post a0 a1 a2 a3 a4 a5 n x6 x7 x8 M → gW p l e (gRm 5 129) s m args below meth c D cy A H0 Q 11 kd ln rh 0 0 M 58 [(0, .ref (gad a0)), (6, .int (gI x6)), (7, .int (gI x7)), (8, .int (gI x8))] [] := by
    intro n
    induction n with
    | zero => intro x6 x7 x8 M h; exact absurd h (by simp [wX7_line_58])
    | succ n ih =>
      intro x6 x7 x8 M h
      have hk58_ := ih
      rw [wX7_line_58] at h
      refine q_iload C 3 rfl dX7_line_58 ?_
      refine q_iload C 2 rfl dX7_line_60 ?_
      obtain ⟨r12, h⟩ := h
      obtain ⟨r13, h⟩ := h
      refine q_icmp_ge (tgt := 197) C r12 r13 (by decide) dX7_line_62 (fun b14 => ?_) (fun b14 => ?_)
      · have h := h.1 b14
        refine q_aload_n C 0 rfl rfl dX7_line_197 ?_
        refine q_iload C 2 rfl dX7_line_198 ?_
        refine q_put (x := x7) (ty := .int) C fX7_75 hk0 (fun _ _ _ q => by cases q; rfl) (congrArg (fun z => Value.int (gI z)) gu_s) rfl rfl r13 (fun j q => absurd (show (0 : Nat) = j + 3 from q) (by omega)) dX7_line_200 ?_
        refine q_iload C 2 rfl dX7_line_203 ?_
        exact hret x7 (gu M a0 26 (-1) x7) _ _ dX7_line_205 r13 h
      · have h := h.2 b14
        refine q_aload_n C 0 rfl rfl dX7_line_65 ?_
        obtain ⟨r15, h⟩ := h
        refine q_get (v := .ref (rh a0 27)) C fX7_78 hk0 (if_neg (Int.not_lt.mpr r15)) dX7_line_66 (fun g16 => ?_)
        refine q_iconst C dX7_line_69 ?_
        refine q_iload C 3 rfl dX7_line_70 ?_
        refine q_imul C dX7_line_72 ?_
        refine q_iconst C dX7_line_73 ?_
        refine q_iadd C dX7_line_74 ?_
        obtain ⟨r17, h⟩ := h
        refine q_iald C hk0 rfl (fun _ q => q) r17 dX7_line_75 (fun g18 => ?_)
        have h := h g18
        refine q_topi (fun v19 ev19 => ?_)
        have h := h v19 ev19
        have gv19 : rng v19 := by rw [ev19]; exact g18
        refine q_istore (lv' := [(9, .int (gI v19)), (0, .ref (gad a0)), (6, .int (gI x6)), (7, .int (gI x7)), (8, .int (gI x8))]) C (by decide) rfl dX7_line_76 ?_
        refine q_aload_n C 1 rfl rfl dX7_line_78 ?_
        refine q_aload_n C 1 rfl rfl dX7_line_79 ?_
        refine q_get (v := .ref (rh a0 27)) C fX7_78 hk0 (if_neg (Int.not_lt.mpr r15)) dX7_line_80 (fun g20 => ?_)
        refine q_iconst C dX7_line_83 ?_
        refine q_iload C 4 rfl dX7_line_84 ?_
        refine q_imul C dX7_line_86 ?_
        obtain ⟨r21, h⟩ := h
        refine q_iald C hk0 rfl (fun _ q => q) r21 dX7_line_87 (fun g22 => ?_)
        have h := h g22
        refine q_aload_n C 1 rfl rfl dX7_line_88 ?_
        refine q_get (v := .ref (rh a0 27)) C fX7_78 hk0 (if_neg (Int.not_lt.mpr r15)) dX7_line_89 (fun g23 => ?_)
        refine q_iconst C dX7_line_92 ?_
        refine q_iload C 4 rfl dX7_line_93 ?_
        refine q_imul C dX7_line_95 ?_
        refine q_iconst C dX7_line_96 ?_
        refine q_iadd C dX7_line_97 ?_
        obtain ⟨r24, h⟩ := h
        refine q_iald C hk0 rfl (fun _ q => q) r24 dX7_line_98 (fun g25 => ?_)
        have h := h g25
        refine q_aload_n C 1 rfl rfl dX7_line_99 ?_
        refine q_get (v := .ref (rh a0 27)) C fX7_78 hk0 (if_neg (Int.not_lt.mpr r15)) dX7_line_100 (fun g26 => ?_)
        refine q_iconst C dX7_line_103 ?_
        refine q_iload C 4 rfl dX7_line_104 ?_
        refine q_imul C dX7_line_106 ?_
        refine q_iconst C dX7_line_107 ?_
        refine q_iadd C dX7_line_108 ?_
        obtain ⟨r27, h⟩ := h
        refine q_iald C hk0 rfl (fun _ q => q) r27 dX7_line_109 (fun g28 => ?_)
        have h := h g28
        refine q_aload_n C 1 rfl rfl dX7_line_110 ?_
        refine q_get (v := .ref (rh a0 27)) C fX7_78 hk0 (if_neg (Int.not_lt.mpr r15)) dX7_line_111 (fun g29 => ?_)
        refine q_iconst C dX7_line_114 ?_
        refine q_iload C 4 rfl dX7_line_115 ?_
        refine q_imul C dX7_line_117 ?_
        refine q_iconst C dX7_line_118 ?_
        refine q_iadd C dX7_line_119 ?_
        obtain ⟨r30, h⟩ := h
        refine q_iald C hk0 rfl (fun _ q => q) r30 dX7_line_120 (fun g31 => ?_)
        have h := h g31
        refine q_iload C 0 rfl dX7_line_121 ?_
        refine q_callVV (As := [.int (gI (M a0 27 (5 * x8))), .int (gI (M a0 27 ((5 * x8) + 1))), .int (gI (M a0 27 ((5 * x8) + 2))), .int (gI (M a0 27 ((5 * x8) + 3))), .int (gI v19)]) (st := []) C vX7_138 kX7_find ⟨Nat.le_of_ble_eq_true rfl, Nat.le_of_ble_eq_true rfl⟩ ⟨Nat.le_of_ble_eq_true rfl, Nat.le_of_ble_eq_true rfl⟩ rfl hk0 ⟨_, _, rfl⟩ (by decide) rfl (Nat.le_of_ble_eq_true rfl) (mX7_find l D cy kd ln rh _ a0 (M a0 27 (5 * x8)) (M a0 27 ((5 * x8) + 1)) (M a0 27 ((5 * x8) + 2)) (M a0 27 ((5 * x8) + 3)) v19 M hk0 h) dX7_line_123 (fun M32 h => ?_)
        refine q_iconst C dX7_line_126 ?_
        refine q_istore (lv' := [(10, .int (gI 0)), (9, .int (gI v19)), (0, .ref (gad a0)), (6, .int (gI x6)), (7, .int (gI x7)), (8, .int (gI x8))]) C (by decide) rfl dX7_line_127 ?_
        refine q_lv (lv' := [(0, .ref (gad a0)), (6, .int (gI x6)), (7, .int (gI x7)), (8, .int (gI x8)), (9, .int (gI v19)), (10, .int (gI 0))]) [2, 3, 4, 5, 1, 0] rfl ?_
        obtain ⟨j129, h⟩ := h
        exact t129 (wX7_line_58 kd ln post a0 a1 a2 a3 a4 a5 n) hk58_ j129 x6 x7 x8 v19 0 M32 h
  have t53 : ∀ (x6 : Int) (y0 : Int) (M : gM), wX7_line_53 kd ln post a0 a1 a2 a3 a4 a5 x6 y0 M → gW p l e (gRm 5 129) s m args below meth c D cy A H0 Q 11 kd ln rh 0 0 M 53 [(0, .ref (gad a0)), (6, .int (gI x6))] [.int (gI y0)] := by
    intro  x6 y0 M h
    unfold wX7_line_53 at h
    refine q_istore (lv' := [(7, .int (gI y0)), (0, .ref (gad a0)), (6, .int (gI x6))]) C (by decide) rfl dX7_line_53 ?_
    refine q_iconst C dX7_line_55 ?_
    refine q_istore (lv' := [(8, .int (gI 0)), (7, .int (gI y0)), (0, .ref (gad a0)), (6, .int (gI x6))]) C (by decide) rfl dX7_line_56 ?_
    refine q_lv (lv' := [(0, .ref (gad a0)), (6, .int (gI x6)), (7, .int (gI y0)), (8, .int (gI 0))]) [2, 3, 1, 0] rfl ?_
    obtain ⟨j58, h⟩ := h
    exact t58  j58 x6 y0 0 M h
  unfold wX7_line at h
  refine q_aload_n C 0 rfl rfl dX7_line_0 ?_
  refine q_iload_n C 1 rfl rfl dX7_line_1 ?_
  refine q_iload_n C 2 rfl rfl dX7_line_2 ?_
  refine q_iload_n C 3 rfl rfl dX7_line_3 ?_
  refine q_iload C 4 rfl dX7_line_4 ?_
  refine q_iload C 5 rfl dX7_line_6 ?_
  refine q_callVI (As := [.int (gI a1), .int (gI a2), .int (gI a3), .int (gI a4), .int (gI a5)]) (st := []) C vX7_190 kX7_mayAsk ⟨Nat.le_of_ble_eq_true rfl, Nat.le_of_ble_eq_true rfl⟩ ⟨Nat.le_of_ble_eq_true rfl, Nat.le_of_ble_eq_true rfl⟩ rfl hk0 ⟨_, _, rfl⟩ (by decide) rfl (Nat.le_of_ble_eq_true rfl) (mX7_mayAsk l D cy kd ln rh _ a0 a1 a2 a3 a4 a5 M hk0 h) dX7_line_8 (fun c2 M1 g3 h => ?_)
  have h := h g3
  refine q_if_ne (tgt := 16) C g3 (by decide) dX7_line_11 (fun b4 => ?_) (fun b4 => ?_)
  · have h := h.1 b4
    refine q_aload_n C 0 rfl rfl dX7_line_16 ?_
    refine q_iload_n C 1 rfl rfl dX7_line_17 ?_
    refine q_iload_n C 2 rfl rfl dX7_line_18 ?_
    refine q_iload_n C 3 rfl rfl dX7_line_19 ?_
    refine q_iload C 4 rfl dX7_line_20 ?_
    refine q_iload C 5 rfl dX7_line_22 ?_
    refine q_callVI (As := [.int (gI a1), .int (gI a2), .int (gI a3), .int (gI a4), .int (gI a5)]) (st := []) C vX7_123 kX7_distanceOf ⟨Nat.le_of_ble_eq_true rfl, Nat.le_of_ble_eq_true rfl⟩ ⟨Nat.le_of_ble_eq_true rfl, Nat.le_of_ble_eq_true rfl⟩ rfl hk0 ⟨_, _, rfl⟩ (by decide) rfl (Nat.le_of_ble_eq_true rfl) (mX7_distanceOf l D cy kd ln rh _ a0 a1 a2 a3 a4 a5 M1 hk0 h) dX7_line_24 (fun c6 M5 g7 h => ?_)
    have h := h g7
    refine q_istore (lv' := [(6, .int (gI c6)), (0, .ref (gad a0)), (1, .int (gI a1)), (2, .int (gI a2)), (3, .int (gI a3)), (4, .int (gI a4)), (5, .int (gI a5))]) C (by decide) rfl dX7_line_27 ?_
    refine q_aload_n C 1 rfl rfl dX7_line_29 ?_
    refine q_iconst C dX7_line_30 ?_
    refine q_iload_n C 2 rfl rfl dX7_line_31 ?_
    refine q_iload_n C 3 rfl rfl dX7_line_32 ?_
    refine q_iload_n C 4 rfl rfl dX7_line_33 ?_
    refine q_iload C 5 rfl dX7_line_34 ?_
    refine q_iload C 6 rfl dX7_line_36 ?_
    refine q_callVV (As := [.int (gI 0), .int (gI a1), .int (gI a2), .int (gI a3), .int (gI a4), .int (gI a5)]) (st := []) C vX7_199 kX7_keep ⟨Nat.le_of_ble_eq_true rfl, Nat.le_of_ble_eq_true rfl⟩ ⟨Nat.le_of_ble_eq_true rfl, Nat.le_of_ble_eq_true rfl⟩ rfl hk0 ⟨_, _, rfl⟩ (by decide) rfl (Nat.le_of_ble_eq_true rfl) (mX7_keep l D cy kd ln rh _ a0 0 a1 a2 a3 a4 a5 M5 hk0 h) dX7_line_38 (fun M8 h => ?_)
    refine q_iload C 0 rfl dX7_line_41 ?_
    refine q_iconst C dX7_line_43 ?_
    refine q_icmp_ne (tgt := 51) C g7 (show rng (-1) by decide) (by decide) dX7_line_44 (fun b11 => ?_) (fun b11 => ?_)
    · have h := h.1 b11
      refine q_iload C 0 rfl dX7_line_51 ?_
      refine q_lv (lv' := [(0, .ref (gad a0)), (6, .int (gI c6))]) [1, 0] rfl ?_
      exact t53  c6 c6 M8 h
    · have h := h.2 b11
      refine q_iconst C dX7_line_47 ?_
      refine q_goto (tgt := 53) C (by decide) dX7_line_48 ?_
      refine q_lv (lv' := [(0, .ref (gad a0)), (6, .int (gI c6))]) [1, 0] rfl ?_
      exact t53  c6 0 M8 h
  · have h := h.2 b4
    refine q_iconst C dX7_line_14 ?_
    exact hret 0 M1 _ _ dX7_line_15 (show rng 0 by decide) h
set_option maxHeartbeats 4000000 in
set_option maxRecDepth 100000 in
theorem mX7_numberOf (l : Launch) (D : va_G) (cy : Nat → ClassId) (kd : gKd) (ln : gLn) (rh : gRh) (post : Int → gM → Prop) (a0 : Int) (a1 : Int) (a2 : Int) (M : gM) (hk0 : kd a0 = 7) (h : wX7_numberOf kd ln post a0 a1 a2 M) : gMI l D cy yX7_numberOf cX7_numberOf 5 .int 1 22 [.ref (gad a0), .int (gI a1), .int (gI a2)] kd ln rh M post := by
  refine gMI_of (own := RX7) (by decide) rfl (Nat.le_of_ble_eq_true rfl) ?_
  intro p e s m args below meth c A H0 Q C hret
  have t43 : ∀ (k21 : Int → Int → gM → Prop), (∀ (x3 : Int), ∀ (x4 : Int), ∀ (M : gM), k21 x3 x4 M → gW p l e (gRm 1 22) s m args below meth c D cy A H0 Q 5 kd ln rh 0 0 M 21 [(0, .ref (gad a0)), (1, .int (gI a1)), (2, .int (gI a2)), (3, .int (gI x3)), (4, .int (gI x4))] []) → ∀ (x4 : Int) (y0 : Int) (y1 : Int) (M : gM), wX7_numberOf_43 kd ln post a0 a1 a2 k21 x4 y0 y1 M → gW p l e (gRm 1 22) s m args below meth c D cy A H0 Q 5 kd ln rh 0 0 M 43 [(0, .ref (gad a0)), (1, .int (gI a1)), (2, .int (gI a2)), (4, .int (gI x4))] [.int (gI y0), .int (gI y1)] := by
    intro k21 hk21_ x4 y0 y1 M h
    unfold wX7_numberOf_43 at h
    refine q_iadd C dX7_numberOf_43 ?_
    refine q_topi (fun v15 ev15 => ?_)
    have h := h v15 ev15
    refine q_istore_n (lv' := [(3, .int (gI v15)), (0, .ref (gad a0)), (1, .int (gI a1)), (2, .int (gI a2)), (4, .int (gI x4))]) C rfl (by decide) rfl dX7_numberOf_44 ?_
    refine q_iinc (lv' := [(4, .int (gI (x4 + 1))), (3, .int (gI v15)), (0, .ref (gad a0)), (1, .int (gI a1)), (2, .int (gI a2))]) C 4 rfl (by decide) rfl dX7_numberOf_45 ?_
    refine q_goto (tgt := 21) C (by decide) dX7_numberOf_48 ?_
    refine q_lv (lv' := [(0, .ref (gad a0)), (1, .int (gI a1)), (2, .int (gI a2)), (3, .int (gI v15)), (4, .int (gI (x4 + 1)))]) [2, 3, 4, 1, 0] rfl ?_
    exact hk21_ v15 (x4 + 1) M h
  have t21 : ∀ (n : Nat) (x3 : Int) (x4 : Int) (M : gM), wX7_numberOf_21 kd ln post a0 a1 a2 n x3 x4 M → gW p l e (gRm 1 22) s m args below meth c D cy A H0 Q 5 kd ln rh 0 0 M 21 [(0, .ref (gad a0)), (1, .int (gI a1)), (2, .int (gI a2)), (3, .int (gI x3)), (4, .int (gI x4))] [] := by
    intro n
    induction n with
    | zero => intro x3 x4 M h; exact absurd h (by simp [wX7_numberOf_21])
    | succ n ih =>
      intro x3 x4 M h
      have hk21_ := ih
      rw [wX7_numberOf_21] at h
      refine q_iload C 4 rfl dX7_numberOf_21 ?_
      refine q_iload_n C 2 rfl rfl dX7_numberOf_23 ?_
      obtain ⟨r7, h⟩ := h
      obtain ⟨r8, h⟩ := h
      refine q_icmp_ge (tgt := 51) C r7 r8 (by decide) dX7_numberOf_24 (fun b9 => ?_) (fun b9 => ?_)
      · have h := h.1 b9
        refine q_iload_n C 3 rfl rfl dX7_numberOf_51 ?_
        obtain ⟨r10, h⟩ := h
        exact hret x3 M _ _ dX7_numberOf_52 r10 h
      · have h := h.2 b9
        refine q_iload_n C 3 rfl rfl dX7_numberOf_27 ?_
        refine q_aload_n C 0 rfl rfl dX7_numberOf_28 ?_
        refine q_iload_n C 1 rfl rfl dX7_numberOf_29 ?_
        refine q_iload C 4 rfl dX7_numberOf_30 ?_
        refine q_callVI (As := [.int (gI a1), .int (gI x4)]) (st := [.int (gI x3)]) C vX7_176 kX7_isCanon ⟨Nat.le_of_ble_eq_true rfl, Nat.le_of_ble_eq_true rfl⟩ ⟨Nat.le_of_ble_eq_true rfl, Nat.le_of_ble_eq_true rfl⟩ rfl hk0 ⟨_, _, rfl⟩ (by decide) rfl (Nat.le_of_ble_eq_true rfl) (mX7_isCanon l D cy kd ln rh _ a0 a1 x4 M hk0 h) dX7_numberOf_32 (fun c12 M11 g13 h => ?_)
        have h := h g13
        refine q_if_eq (tgt := 42) C g13 (by decide) dX7_numberOf_35 (fun b14 => ?_) (fun b14 => ?_)
        · have h := h.1 b14
          refine q_iconst C dX7_numberOf_42 ?_
          refine q_lv (lv' := [(0, .ref (gad a0)), (1, .int (gI a1)), (2, .int (gI a2)), (4, .int (gI x4))]) [0, 1, 2, 4] rfl ?_
          exact t43 (wX7_numberOf_21 kd ln post a0 a1 a2 n) hk21_ x4 0 x3 M11 h
        · have h := h.2 b14
          refine q_iconst C dX7_numberOf_38 ?_
          refine q_goto (tgt := 43) C (by decide) dX7_numberOf_39 ?_
          refine q_lv (lv' := [(0, .ref (gad a0)), (1, .int (gI a1)), (2, .int (gI a2)), (4, .int (gI x4))]) [0, 1, 2, 4] rfl ?_
          exact t43 (wX7_numberOf_21 kd ln post a0 a1 a2 n) hk21_ x4 1 x3 M11 h
  unfold wX7_numberOf at h
  refine q_aload_n C 0 rfl rfl dX7_numberOf_0 ?_
  obtain ⟨r1, h⟩ := h
  refine q_get (v := .ref (rh a0 6)) C fX7_30 hk0 (if_neg (Int.not_lt.mpr r1)) dX7_numberOf_1 (fun g2 => ?_)
  refine q_sipush C (by decide) dX7_numberOf_4 ?_
  refine q_iload_n C 1 rfl rfl dX7_numberOf_7 ?_
  refine q_imul C dX7_numberOf_8 ?_
  refine q_iload_n C 2 rfl rfl dX7_numberOf_9 ?_
  refine q_iconst C dX7_numberOf_10 ?_
  refine q_ishr C dX7_numberOf_11 ?_
  refine q_iadd C dX7_numberOf_12 ?_
  obtain ⟨r3, h⟩ := h
  refine q_iald C hk0 rfl (fun _ q => q) r3 dX7_numberOf_13 (fun g4 => ?_)
  have h := h g4
  refine q_topi (fun v5 ev5 => ?_)
  have h := h v5 ev5
  have gv5 : rng v5 := by rw [ev5]; exact g4
  refine q_istore_n (lv' := [(3, .int (gI v5)), (0, .ref (gad a0)), (1, .int (gI a1)), (2, .int (gI a2))]) C rfl (by decide) rfl dX7_numberOf_14 ?_
  refine q_iload_n C 3 rfl rfl dX7_numberOf_15 ?_
  refine q_bipush C (by decide) dX7_numberOf_16 ?_
  refine q_iand C dX7_numberOf_18 ?_
  refine q_topi (fun v6 ev6 => ?_)
  have h := h v6 ev6
  refine q_istore (lv' := [(4, .int (gI v6)), (3, .int (gI v5)), (0, .ref (gad a0)), (1, .int (gI a1)), (2, .int (gI a2))]) C (by decide) rfl dX7_numberOf_19 ?_
  refine q_lv (lv' := [(0, .ref (gad a0)), (1, .int (gI a1)), (2, .int (gI a2)), (3, .int (gI v5)), (4, .int (gI v6))]) [2, 3, 4, 1, 0] rfl ?_
  obtain ⟨j21, h⟩ := h
  exact t21  j21 v5 v6 M h
set_option maxHeartbeats 4000000 in
set_option maxRecDepth 100000 in
theorem mX7_longest (l : Launch) (D : va_G) (cy : Nat → ClassId) (kd : gKd) (ln : gLn) (rh : gRh) (post : Int → gM → Prop) (a0 : Int) (a1 : Int) (a2 : Int) (a3 : Int) (M : gM) (hk0 : kd a0 = 7) (h : wX7_longest kd ln post a0 a1 a2 a3 M) : gMI l D cy yX7_longest cX7_longest 8 .int 2 46 [.ref (gad a0), .int (gI a1), .int (gI a2), .int (gI a3)] kd ln rh M post := by
  refine gMI_of (own := RX7) (by decide) rfl (Nat.le_of_ble_eq_true rfl) ?_
  intro p e s m args below meth c A H0 Q C hret
  have t114 : ∀ (k58 : Int → Int → Int → Int → gM → Prop), (∀ (x4 : Int), ∀ (x5 : Int), ∀ (x6 : Int), ∀ (x7 : Int), ∀ (M : gM), k58 x4 x5 x6 x7 M → gW p l e (gRm 2 46) s m args below meth c D cy A H0 Q 8 kd ln rh 0 0 M 58 [(0, .ref (gad a0)), (1, .int (gI a1)), (3, .int (gI a3)), (4, .int (gI x4)), (5, .int (gI x5)), (6, .int (gI x6)), (7, .int (gI x7))] []) → ∀ (x4 : Int) (x5 : Int) (x6 : Int) (x7 : Int) (M : gM), wX7_longest_114 kd ln post a0 a1 a2 a3 k58 x4 x5 x6 x7 M → gW p l e (gRm 2 46) s m args below meth c D cy A H0 Q 8 kd ln rh 0 0 M 114 [(0, .ref (gad a0)), (1, .int (gI a1)), (3, .int (gI a3)), (4, .int (gI x4)), (5, .int (gI x5)), (6, .int (gI x6)), (7, .int (gI x7))] [] := by
    intro k58 hk58_ x4 x5 x6 x7 M h
    unfold wX7_longest_114 at h
    refine q_iinc (lv' := [(7, .int (gI (x7 + 2))), (0, .ref (gad a0)), (1, .int (gI a1)), (3, .int (gI a3)), (4, .int (gI x4)), (5, .int (gI x5)), (6, .int (gI x6))]) C 6 rfl (by decide) rfl dX7_longest_114 ?_
    refine q_goto (tgt := 58) C (by decide) dX7_longest_117 ?_
    refine q_lv (lv' := [(0, .ref (gad a0)), (1, .int (gI a1)), (3, .int (gI a3)), (4, .int (gI x4)), (5, .int (gI x5)), (6, .int (gI x6)), (7, .int (gI (x7 + 2)))]) [1, 2, 3, 4, 5, 6, 0] rfl ?_
    exact hk58_ x4 x5 x6 (x7 + 2) M h
  have t58 : ∀ (n : Nat) (x4 : Int) (x5 : Int) (x6 : Int) (x7 : Int) (M : gM), wX7_longest_58 kd ln post a0 a1 a2 a3 n x4 x5 x6 x7 M → gW p l e (gRm 2 46) s m args below meth c D cy A H0 Q 8 kd ln rh 0 0 M 58 [(0, .ref (gad a0)), (1, .int (gI a1)), (3, .int (gI a3)), (4, .int (gI x4)), (5, .int (gI x5)), (6, .int (gI x6)), (7, .int (gI x7))] [] := by
    intro n
    induction n with
    | zero => intro x4 x5 x6 x7 M h; exact absurd h (by simp [wX7_longest_58])
    | succ n ih =>
      intro x4 x5 x6 x7 M h
      have hk58_ := ih
      rw [wX7_longest_58] at h
      refine q_iload C 6 rfl dX7_longest_58 ?_
      refine q_iload C 3 rfl dX7_longest_60 ?_
      obtain ⟨r17, h⟩ := h
      obtain ⟨r18, h⟩ := h
      refine q_icmp_ge (tgt := 120) C r17 r18 (by decide) dX7_longest_62 (fun b19 => ?_) (fun b19 => ?_)
      · have h := h.1 b19
        refine q_iload_n C 2 rfl rfl dX7_longest_120 ?_
        obtain ⟨r20, h⟩ := h
        refine q_if_ne (tgt := 129) C r20 (by decide) dX7_longest_121 (fun b21 => ?_) (fun b21 => ?_)
        · have h := h.1 b21
          refine q_iload_n C 2 rfl rfl dX7_longest_129 ?_
          refine q_iconst C dX7_longest_130 ?_
          refine q_icmp_ne (tgt := 150) C r20 (show rng 1 by decide) (by decide) dX7_longest_131 (fun b22 => ?_) (fun b22 => ?_)
          · have h := h.1 b22
            refine q_iconst C dX7_longest_150 ?_
            exact hret (-1) M _ _ dX7_longest_151 (show rng (-1) by decide) h
          · have h := h.2 b22
            refine q_iload C 5 rfl dX7_longest_134 ?_
            refine q_iconst C dX7_longest_136 ?_
            obtain ⟨r23, h⟩ := h
            refine q_icmp_eq (tgt := 150) C r23 (show rng (-1) by decide) (by decide) dX7_longest_137 (fun b24 => ?_) (fun b24 => ?_)
            · have h := h.1 b24
              refine q_iconst C dX7_longest_150 ?_
              exact hret (-1) M _ _ dX7_longest_151 (show rng (-1) by decide) h
            · have h := h.2 b24
              refine q_aload_n C 0 rfl rfl dX7_longest_140 ?_
              refine q_iload_n C 1 rfl rfl dX7_longest_141 ?_
              refine q_iload C 5 rfl dX7_longest_142 ?_
              refine q_callVI (As := [.int (gI a1), .int (gI x6)]) (st := []) C vX7_202 kX7_numberOf ⟨Nat.le_of_ble_eq_true rfl, Nat.le_of_ble_eq_true rfl⟩ ⟨Nat.le_of_ble_eq_true rfl, Nat.le_of_ble_eq_true rfl⟩ rfl hk0 ⟨_, _, rfl⟩ (by decide) rfl (Nat.le_of_ble_eq_true rfl) (mX7_numberOf l D cy kd ln rh _ a0 a1 x6 M hk0 h) dX7_longest_144 (fun c26 M25 g27 h => ?_)
              have h := h g27
              refine q_goto (tgt := 151) C (by decide) dX7_longest_147 ?_
              exact hret c26 M25 _ _ dX7_longest_151 g27 h
        · have h := h.2 b21
          refine q_iload C 4 rfl dX7_longest_124 ?_
          refine q_goto (tgt := 151) C (by decide) dX7_longest_126 ?_
          obtain ⟨r28, h⟩ := h
          exact hret x5 M _ _ dX7_longest_151 r28 h
      · have h := h.2 b19
        refine q_aload_n C 0 rfl rfl dX7_longest_65 ?_
        refine q_iload_n C 1 rfl rfl dX7_longest_66 ?_
        refine q_iload C 6 rfl dX7_longest_67 ?_
        refine q_callVI (As := [.int (gI a1), .int (gI x7)]) (st := []) C vX7_176 kX7_isCanon ⟨Nat.le_of_ble_eq_true rfl, Nat.le_of_ble_eq_true rfl⟩ ⟨Nat.le_of_ble_eq_true rfl, Nat.le_of_ble_eq_true rfl⟩ rfl hk0 ⟨_, _, rfl⟩ (by decide) rfl (Nat.le_of_ble_eq_true rfl) (mX7_isCanon l D cy kd ln rh _ a0 a1 x7 M hk0 h) dX7_longest_69 (fun c30 M29 g31 h => ?_)
        have h := h g31
        refine q_if_eq (tgt := 114) C g31 (by decide) dX7_longest_72 (fun b32 => ?_) (fun b32 => ?_)
        · have h := h.1 b32
          exact t114 (wX7_longest_58 kd ln post a0 a1 a2 a3 n) hk58_ x4 x5 x6 x7 M29 h
        · have h := h.2 b32
          refine q_aload_n C 0 rfl rfl dX7_longest_75 ?_
          obtain ⟨r33, h⟩ := h
          refine q_get (v := .ref (rh a0 4)) C fX7_21 hk0 (if_neg (Int.not_lt.mpr r33)) dX7_longest_76 (fun g34 => ?_)
          refine q_ldc (n := 524288) C nX7_118 (by decide) dX7_longest_79 ?_
          refine q_iload_n C 1 rfl rfl dX7_longest_81 ?_
          refine q_imul C dX7_longest_82 ?_
          refine q_iload C 6 rfl dX7_longest_83 ?_
          refine q_iadd C dX7_longest_85 ?_
          obtain ⟨r35, h⟩ := h
          refine q_bald C hk0 rfl (fun _ q => q) r35 dX7_longest_86 (fun g36 => ?_)
          have h := h g36
          refine q_iconst C dX7_longest_87 ?_
          refine q_isub C dX7_longest_88 ?_
          refine q_iload C 4 rfl dX7_longest_89 ?_
          obtain ⟨r37, h⟩ := h
          obtain ⟨r38, h⟩ := h
          refine q_icmp_le (tgt := 114) C r37 r38 (by decide) dX7_longest_91 (fun b39 => ?_) (fun b39 => ?_)
          · have h := h.1 b39
            exact t114 (wX7_longest_58 kd ln post a0 a1 a2 a3 n) hk58_ x4 x5 x6 x7 M29 h
          · have h := h.2 b39
            refine q_aload_n C 0 rfl rfl dX7_longest_94 ?_
            refine q_get (v := .ref (rh a0 4)) C fX7_21 hk0 (if_neg (Int.not_lt.mpr r33)) dX7_longest_95 (fun g40 => ?_)
            refine q_ldc (n := 524288) C nX7_118 (by decide) dX7_longest_98 ?_
            refine q_iload_n C 1 rfl rfl dX7_longest_100 ?_
            refine q_imul C dX7_longest_101 ?_
            refine q_iload C 6 rfl dX7_longest_102 ?_
            refine q_iadd C dX7_longest_104 ?_
            refine q_bald C hk0 rfl (fun _ q => q) r35 dX7_longest_105 (fun g41 => ?_)
            refine q_iconst C dX7_longest_106 ?_
            refine q_isub C dX7_longest_107 ?_
            refine q_topi (fun v42 ev42 => ?_)
            have h := h v42 ev42
            have gv42 : rng v42 := by rw [ev42]; exact r37
            refine q_istore (lv' := [(5, .int (gI v42)), (0, .ref (gad a0)), (1, .int (gI a1)), (3, .int (gI a3)), (4, .int (gI x4)), (6, .int (gI x6)), (7, .int (gI x7))]) C (by decide) rfl dX7_longest_108 ?_
            refine q_iload C 6 rfl dX7_longest_110 ?_
            refine q_istore (lv' := [(6, .int (gI x7)), (5, .int (gI v42)), (0, .ref (gad a0)), (1, .int (gI a1)), (3, .int (gI a3)), (4, .int (gI x4)), (7, .int (gI x7))]) C (by decide) rfl dX7_longest_112 ?_
            refine q_lv (lv' := [(0, .ref (gad a0)), (1, .int (gI a1)), (3, .int (gI a3)), (4, .int (gI x4)), (5, .int (gI v42)), (6, .int (gI x7)), (7, .int (gI x7))]) [2, 3, 4, 5, 1, 0, 6] rfl ?_
            exact t114 (wX7_longest_58 kd ln post a0 a1 a2 a3 n) hk58_ x4 v42 x7 x7 M29 h
  have t23 : ∀ (y0 : Int) (M : gM), wX7_longest_23 kd ln post a0 a1 a2 a3 y0 M → gW p l e (gRm 2 46) s m args below meth c D cy A H0 Q 8 kd ln rh 0 0 M 23 [(0, .ref (gad a0)), (1, .int (gI a1)), (2, .int (gI a2)), (3, .int (gI a3))] [.int (gI y0), .ref (gad a0)] := by
    intro  y0 M h
    unfold wX7_longest_23 at h
    refine q_callVI (As := [.int (gI y0)]) (st := []) C vX7_186 kX7_may ⟨Nat.le_of_ble_eq_true rfl, Nat.le_of_ble_eq_true rfl⟩ ⟨Nat.le_of_ble_eq_true rfl, Nat.le_of_ble_eq_true rfl⟩ rfl hk0 ⟨_, _, rfl⟩ (by decide) rfl (Nat.le_of_ble_eq_true rfl) (mX7_may l D cy kd ln rh _ a0 y0 M hk0 h) dX7_longest_23 (fun c10 M9 g11 h => ?_)
    have h := h g11
    refine q_if_ne (tgt := 31) C g11 (by decide) dX7_longest_26 (fun b12 => ?_) (fun b12 => ?_)
    · have h := h.1 b12
      refine q_iconst C dX7_longest_31 ?_
      refine q_aload_n C 0 rfl rfl dX7_longest_32 ?_
      refine q_get (v := .int (gI (M9 a0 2 (-1)))) C fX7_13 hk0 rfl dX7_longest_33 (fun g13 => ?_)
      have h := h g13
      refine q_imul C dX7_longest_36 ?_
      refine q_aload_n C 0 rfl rfl dX7_longest_37 ?_
      refine q_get (v := .int (gI (M9 a0 2 (-1)))) C fX7_13 hk0 rfl dX7_longest_38 (fun g14 => ?_)
      refine q_imul C dX7_longest_41 ?_
      refine q_aload_n C 0 rfl rfl dX7_longest_42 ?_
      refine q_get (v := .int (gI (M9 a0 2 (-1)))) C fX7_13 hk0 rfl dX7_longest_43 (fun g15 => ?_)
      refine q_imul C dX7_longest_46 ?_
      refine q_topi (fun v16 ev16 => ?_)
      have h := h v16 ev16
      refine q_istore (lv' := [(4, .int (gI v16)), (0, .ref (gad a0)), (1, .int (gI a1)), (2, .int (gI a2)), (3, .int (gI a3))]) C (by decide) rfl dX7_longest_47 ?_
      refine q_iconst C dX7_longest_49 ?_
      refine q_istore (lv' := [(5, .int (gI (-1))), (4, .int (gI v16)), (0, .ref (gad a0)), (1, .int (gI a1)), (2, .int (gI a2)), (3, .int (gI a3))]) C (by decide) rfl dX7_longest_50 ?_
      refine q_iconst C dX7_longest_52 ?_
      refine q_istore (lv' := [(6, .int (gI (-1))), (5, .int (gI (-1))), (4, .int (gI v16)), (0, .ref (gad a0)), (1, .int (gI a1)), (2, .int (gI a2)), (3, .int (gI a3))]) C (by decide) rfl dX7_longest_53 ?_
      refine q_iload_n C 5 rfl rfl dX7_longest_55 ?_
      refine q_istore (lv' := [(7, .int (gI a2)), (6, .int (gI (-1))), (5, .int (gI (-1))), (4, .int (gI v16)), (0, .ref (gad a0)), (1, .int (gI a1)), (2, .int (gI a2)), (3, .int (gI a3))]) C (by decide) rfl dX7_longest_56 ?_
      refine q_lv (lv' := [(0, .ref (gad a0)), (1, .int (gI a1)), (3, .int (gI a3)), (4, .int (gI v16)), (5, .int (gI (-1))), (6, .int (gI (-1))), (7, .int (gI a2))]) [4, 5, 7, 3, 2, 1, 0] rfl ?_
      obtain ⟨j58, h⟩ := h
      exact t58  j58 v16 (-1) (-1) a2 M9 h
    · have h := h.2 b12
      refine q_iconst C dX7_longest_29 ?_
      exact hret 0 M9 _ _ dX7_longest_30 (show rng 0 by decide) h
  have t22 : ∀ (M : gM), wX7_longest_22 kd ln post a0 a1 a2 a3  M → gW p l e (gRm 2 46) s m args below meth c D cy A H0 Q 8 kd ln rh 0 0 M 22 [(0, .ref (gad a0)), (1, .int (gI a1)), (2, .int (gI a2)), (3, .int (gI a3))] [.ref (gad a0)] := by
    intro   M h
    unfold wX7_longest_22 at h
    refine q_iconst C dX7_longest_22 ?_
    exact t23  0 M h
  unfold wX7_longest at h
  refine q_aload_n C 0 rfl rfl dX7_longest_0 ?_
  refine q_aload_n C 0 rfl rfl dX7_longest_1 ?_
  refine q_iload_n C 1 rfl rfl dX7_longest_2 ?_
  refine q_callVI (As := [.int (gI a1)]) (st := [.ref (gad a0)]) C vX7_179 kX7_isMade ⟨Nat.le_of_ble_eq_true rfl, Nat.le_of_ble_eq_true rfl⟩ ⟨Nat.le_of_ble_eq_true rfl, Nat.le_of_ble_eq_true rfl⟩ rfl hk0 ⟨_, _, rfl⟩ (by decide) rfl (Nat.le_of_ble_eq_true rfl) (mX7_isMade l D cy kd ln rh _ a0 a1 M hk0 h) dX7_longest_3 (fun c2 M1 g3 h => ?_)
  have h := h g3
  refine q_if_eq (tgt := 22) C g3 (by decide) dX7_longest_6 (fun b4 => ?_) (fun b4 => ?_)
  · have h := h.1 b4
    exact t22  M1 h
  · have h := h.2 b4
    refine q_iload_n C 2 rfl rfl dX7_longest_9 ?_
    refine q_iconst C dX7_longest_10 ?_
    refine q_iconst C dX7_longest_11 ?_
    refine q_callSI (As := [.int (gI a2), .int (gI 0), .int (gI 1)]) (st := [.ref (gad a0)]) C vX7_84 kX7_in ⟨Nat.le_of_ble_eq_true rfl, Nat.le_of_ble_eq_true rfl⟩ ⟨Nat.le_of_ble_eq_true rfl, Nat.le_of_ble_eq_true rfl⟩ rfl rfl (Nat.le_of_ble_eq_true rfl) (mX7_in l D cy kd ln rh _ a2 0 1 M1  h) dX7_longest_12 (fun c6 M5 g7 h => ?_)
    have h := h g7
    refine q_if_eq (tgt := 22) C g7 (by decide) dX7_longest_15 (fun b8 => ?_) (fun b8 => ?_)
    · have h := h.1 b8
      exact t22  M5 h
    · have h := h.2 b8
      refine q_iconst C dX7_longest_18 ?_
      refine q_goto (tgt := 23) C (by decide) dX7_longest_19 ?_
      exact t23  1 M5 h
set_option maxHeartbeats 4000000 in
set_option maxRecDepth 100000 in
theorem mX7_numbers (l : Launch) (D : va_G) (cy : Nat → ClassId) (kd : gKd) (ln : gLn) (rh : gRh) (post : gM → Prop) (a0 : Int) (a1 : Int) (M : gM) (hk0 : kd a0 = 7) (h : wX7_numbers kd ln post a0 a1 M) : gMV l D cy yX7_numbers cX7_numbers 9 4 100 [.ref (gad a0), .int (gI a1)] kd ln rh M post := by
  refine gMV_of (own := RX7) (by decide) rfl (Nat.le_of_ble_eq_true rfl) ?_
  intro p e s m args below meth c A H0 Q C hret
  have t191 : ∀ (k50 : Int → Int → Int → gM → Prop), (∀ (x2 : Int), ∀ (x3 : Int), ∀ (x4 : Int), ∀ (M : gM), k50 x2 x3 x4 M → gW p l e (gRm 4 100) s m args below meth c D cy A H0 Q 9 kd ln rh 0 0 M 50 [(0, .ref (gad a0)), (1, .int (gI a1)), (2, .int (gI x2)), (3, .int (gI x3)), (4, .int (gI x4))] []) → ∀ (x2 : Int) (x3 : Int) (x4 : Int) (M : gM), wX7_numbers_191 kd ln post a0 a1 k50 x2 x3 x4 M → gW p l e (gRm 4 100) s m args below meth c D cy A H0 Q 9 kd ln rh 0 0 M 191 [(0, .ref (gad a0)), (1, .int (gI a1)), (2, .int (gI x2)), (3, .int (gI x3)), (4, .int (gI x4))] [] := by
    intro k50 hk50_ x2 x3 x4 M h
    unfold wX7_numbers_191 at h
    refine q_iinc (lv' := [(4, .int (gI (x4 + 1))), (0, .ref (gad a0)), (1, .int (gI a1)), (2, .int (gI x2)), (3, .int (gI x3))]) C 4 rfl (by decide) rfl dX7_numbers_191 ?_
    refine q_goto (tgt := 50) C (by decide) dX7_numbers_194 ?_
    refine q_lv (lv' := [(0, .ref (gad a0)), (1, .int (gI a1)), (2, .int (gI x2)), (3, .int (gI x3)), (4, .int (gI (x4 + 1)))]) [1, 2, 3, 4, 0] rfl ?_
    exact hk50_ x2 x3 (x4 + 1) M h
  have t80 : ∀ (k50 : Int → Int → Int → gM → Prop), (∀ (x2 : Int), ∀ (x3 : Int), ∀ (x4 : Int), ∀ (M : gM), k50 x2 x3 x4 M → gW p l e (gRm 4 100) s m args below meth c D cy A H0 Q 9 kd ln rh 0 0 M 50 [(0, .ref (gad a0)), (1, .int (gI a1)), (2, .int (gI x2)), (3, .int (gI x3)), (4, .int (gI x4))] []) → ∀ (x2 : Int) (x3 : Int) (x4 : Int) (M : gM), wX7_numbers_80 kd ln post a0 a1 k50 x2 x3 x4 M → gW p l e (gRm 4 100) s m args below meth c D cy A H0 Q 9 kd ln rh 0 0 M 80 [(0, .ref (gad a0)), (1, .int (gI a1)), (2, .int (gI x2)), (3, .int (gI x3)), (4, .int (gI x4))] [] := by
    intro k50 hk50_ x2 x3 x4 M h
    unfold wX7_numbers_80 at h
    refine q_iload C 4 rfl dX7_numbers_80 ?_
    refine q_iconst C dX7_numbers_82 ?_
    refine q_iand C dX7_numbers_83 ?_
    refine q_topi (fun v23 ev23 => ?_)
    have h := h v23 ev23
    refine q_istore (lv' := [(5, .int (gI v23)), (0, .ref (gad a0)), (1, .int (gI a1)), (2, .int (gI x2)), (3, .int (gI x3)), (4, .int (gI x4))]) C (by decide) rfl dX7_numbers_84 ?_
    refine q_iload C 5 rfl dX7_numbers_86 ?_
    refine q_iconst C dX7_numbers_88 ?_
    obtain ⟨r24, h⟩ := h
    refine q_idiv C ⟨r24.1, r24.2, by decide, by decide⟩ dX7_numbers_89 ?_
    refine q_aload_n C 1 rfl rfl dX7_numbers_90 ?_
    refine q_get (v := .int (gI (M a0 2 (-1)))) C fX7_13 hk0 rfl dX7_numbers_91 (fun g25 => ?_)
    have h := h g25
    obtain ⟨r26, h⟩ := h
    refine q_irem C r26 dX7_numbers_94 ?_
    refine q_topi (fun v27 ev27 => ?_)
    have h := h v27 ev27
    refine q_istore (lv' := [(6, .int (gI v27)), (5, .int (gI v23)), (0, .ref (gad a0)), (1, .int (gI a1)), (2, .int (gI x2)), (3, .int (gI x3)), (4, .int (gI x4))]) C (by decide) rfl dX7_numbers_95 ?_
    refine q_iload C 6 rfl dX7_numbers_97 ?_
    refine q_iconst C dX7_numbers_99 ?_
    refine q_idiv C ⟨r24.1, r24.2, by decide, by decide⟩ dX7_numbers_100 ?_
    refine q_aload_n C 2 rfl rfl dX7_numbers_101 ?_
    refine q_get (v := .int (gI (M a0 2 (-1)))) C fX7_13 hk0 rfl dX7_numbers_102 (fun g28 => ?_)
    refine q_idiv C r26 dX7_numbers_105 ?_
    refine q_aload_n C 2 rfl rfl dX7_numbers_106 ?_
    refine q_get (v := .int (gI (M a0 2 (-1)))) C fX7_13 hk0 rfl dX7_numbers_107 (fun g29 => ?_)
    obtain ⟨r30, h⟩ := h
    refine q_irem C r30 dX7_numbers_110 ?_
    refine q_topi (fun v31 ev31 => ?_)
    have h := h v31 ev31
    refine q_istore (lv' := [(7, .int (gI v31)), (6, .int (gI v27)), (5, .int (gI v23)), (0, .ref (gad a0)), (1, .int (gI a1)), (2, .int (gI x2)), (3, .int (gI x3)), (4, .int (gI x4))]) C (by decide) rfl dX7_numbers_111 ?_
    refine q_iload C 7 rfl dX7_numbers_113 ?_
    refine q_iconst C dX7_numbers_115 ?_
    refine q_idiv C ⟨r24.1, r24.2, by decide, by decide⟩ dX7_numbers_116 ?_
    refine q_aload_n C 3 rfl rfl dX7_numbers_117 ?_
    refine q_get (v := .int (gI (M a0 2 (-1)))) C fX7_13 hk0 rfl dX7_numbers_118 (fun g32 => ?_)
    refine q_idiv C r26 dX7_numbers_121 ?_
    refine q_aload_n C 3 rfl rfl dX7_numbers_122 ?_
    refine q_get (v := .int (gI (M a0 2 (-1)))) C fX7_13 hk0 rfl dX7_numbers_123 (fun g33 => ?_)
    refine q_idiv C r30 dX7_numbers_126 ?_
    refine q_topi (fun v34 ev34 => ?_)
    have h := h v34 ev34
    refine q_istore (lv' := [(8, .int (gI v34)), (7, .int (gI v31)), (6, .int (gI v27)), (5, .int (gI v23)), (0, .ref (gad a0)), (1, .int (gI a1)), (2, .int (gI x2)), (3, .int (gI x3)), (4, .int (gI x4))]) C (by decide) rfl dX7_numbers_127 ?_
    refine q_aload_n C 4 rfl rfl dX7_numbers_129 ?_
    refine q_iload_n C 5 rfl rfl dX7_numbers_130 ?_
    refine q_iload C 0 rfl dX7_numbers_131 ?_
    refine q_iload C 1 rfl dX7_numbers_133 ?_
    refine q_iload C 2 rfl dX7_numbers_135 ?_
    refine q_iload C 3 rfl dX7_numbers_137 ?_
    refine q_callVI (As := [.int (gI a1), .int (gI v34), .int (gI v31), .int (gI v27), .int (gI v23)]) (st := []) C vX7_107 kX7_legal ⟨Nat.le_of_ble_eq_true rfl, Nat.le_of_ble_eq_true rfl⟩ ⟨Nat.le_of_ble_eq_true rfl, Nat.le_of_ble_eq_true rfl⟩ rfl hk0 ⟨_, _, rfl⟩ (by decide) rfl (Nat.le_of_ble_eq_true rfl) (mX7_legal l D cy kd ln rh _ a0 a1 v34 v31 v27 v23 M hk0 h) dX7_numbers_139 (fun c36 M35 g37 h => ?_)
    have h := h g37
    refine q_if_eq (tgt := 191) C g37 (by decide) dX7_numbers_142 (fun b38 => ?_) (fun b38 => ?_)
    · have h := h.1 b38
      refine q_lv (lv' := [(0, .ref (gad a0)), (1, .int (gI a1)), (2, .int (gI x2)), (3, .int (gI x3)), (4, .int (gI x4))]) [4, 5, 6, 7, 8] rfl ?_
      exact t191 k50 hk50_ x2 x3 x4 M35 h
    · have h := h.2 b38
      refine q_aload_n C 4 rfl rfl dX7_numbers_145 ?_
      refine q_iload_n C 5 rfl rfl dX7_numbers_146 ?_
      refine q_iload C 0 rfl dX7_numbers_147 ?_
      refine q_iload C 1 rfl dX7_numbers_149 ?_
      refine q_iload C 2 rfl dX7_numbers_151 ?_
      refine q_iload C 3 rfl dX7_numbers_153 ?_
      refine q_callVI (As := [.int (gI a1), .int (gI v34), .int (gI v31), .int (gI v27), .int (gI v23)]) (st := []) C vX7_173 kX7_least ⟨Nat.le_of_ble_eq_true rfl, Nat.le_of_ble_eq_true rfl⟩ ⟨Nat.le_of_ble_eq_true rfl, Nat.le_of_ble_eq_true rfl⟩ rfl hk0 ⟨_, _, rfl⟩ (by decide) rfl (Nat.le_of_ble_eq_true rfl) (mX7_least l D cy kd ln rh _ a0 a1 v34 v31 v27 v23 M35 hk0 h) dX7_numbers_155 (fun c40 M39 g41 h => ?_)
      have h := h g41
      refine q_iload C 8 rfl dX7_numbers_158 ?_
      obtain ⟨r42, h⟩ := h
      refine q_icmp_ne (tgt := 191) C g41 r42 (by decide) dX7_numbers_160 (fun b43 => ?_) (fun b43 => ?_)
      · have h := h.1 b43
        refine q_lv (lv' := [(0, .ref (gad a0)), (1, .int (gI a1)), (2, .int (gI x2)), (3, .int (gI x3)), (4, .int (gI x4))]) [4, 5, 6, 7, 8] rfl ?_
        exact t191 k50 hk50_ x2 x3 x4 M39 h
      · have h := h.2 b43
        refine q_aload_n C 4 rfl rfl dX7_numbers_163 ?_
        obtain ⟨r44, h⟩ := h
        refine q_get (v := .ref (rh a0 5)) C fX7_26 hk0 (if_neg (Int.not_lt.mpr r44)) dX7_numbers_164 (fun g45 => ?_)
        refine q_sipush C (by decide) dX7_numbers_167 ?_
        refine q_iload_n C 5 rfl rfl dX7_numbers_170 ?_
        refine q_imul C dX7_numbers_171 ?_
        refine q_iload C 8 rfl dX7_numbers_172 ?_
        refine q_iconst C dX7_numbers_174 ?_
        refine q_ishr C dX7_numbers_175 ?_
        refine q_iadd C dX7_numbers_176 ?_
        refine q_dup2 C rfl rfl dX7_numbers_177 ?_
        obtain ⟨r46, h⟩ := h
        refine q_iald C hk0 rfl (fun _ q => q) r46 dX7_numbers_178 (fun g47 => ?_)
        have h := h g47
        refine q_iconst C dX7_numbers_179 ?_
        refine q_iload C 8 rfl dX7_numbers_180 ?_
        refine q_bipush C (by decide) dX7_numbers_182 ?_
        refine q_iand C dX7_numbers_184 ?_
        refine q_ishl C dX7_numbers_185 ?_
        refine q_ior C dX7_numbers_186 ?_
        obtain ⟨r48, h⟩ := h
        refine q_iast C hk0 rfl r48 r46 dX7_numbers_187 ?_
        refine q_iinc (lv' := [(2, .int (gI (x2 + 1))), (8, .int (gI v34)), (7, .int (gI v31)), (6, .int (gI v27)), (5, .int (gI v23)), (0, .ref (gad a0)), (1, .int (gI a1)), (3, .int (gI x3)), (4, .int (gI x4))]) C 6 rfl (by decide) rfl dX7_numbers_188 ?_
        refine q_lv (lv' := [(0, .ref (gad a0)), (1, .int (gI a1)), (2, .int (gI (x2 + 1))), (3, .int (gI x3)), (4, .int (gI x4))]) [5, 6, 0, 7, 8] rfl ?_
        exact t191 k50 hk50_ (x2 + 1) x3 x4 (gu M39 a0 5 ((16384 * a1) + (gishr x4 5)) (gior (M39 a0 5 ((16384 * a1) + (gishr x4 5))) (gishl 1 (giand x4 31)))) h
  have t50 : ∀ (n : Nat) (x2 : Int) (x3 : Int) (x4 : Int) (M : gM), wX7_numbers_50 kd ln post a0 a1 n x2 x3 x4 M → gW p l e (gRm 4 100) s m args below meth c D cy A H0 Q 9 kd ln rh 0 0 M 50 [(0, .ref (gad a0)), (1, .int (gI a1)), (2, .int (gI x2)), (3, .int (gI x3)), (4, .int (gI x4))] [] := by
    intro n
    induction n with
    | zero => intro x2 x3 x4 M h; exact absurd h (by simp [wX7_numbers_50])
    | succ n ih =>
      intro x2 x3 x4 M h
      have hk50_ := ih
      rw [wX7_numbers_50] at h
      refine q_iload C 4 rfl dX7_numbers_50 ?_
      refine q_iload_n C 3 rfl rfl dX7_numbers_52 ?_
      obtain ⟨r10, h⟩ := h
      obtain ⟨r11, h⟩ := h
      refine q_icmp_ge (tgt := 197) C r10 r11 (by decide) dX7_numbers_53 (fun b12 => ?_) (fun b12 => ?_)
      · have h := h.1 b12
        refine q_aload_n C 0 rfl rfl dX7_numbers_197 ?_
        obtain ⟨r13, h⟩ := h
        refine q_get (v := .ref (rh a0 7)) C fX7_33 hk0 (if_neg (Int.not_lt.mpr r13)) dX7_numbers_198 (fun g14 => ?_)
        refine q_iload_n C 1 rfl rfl dX7_numbers_201 ?_
        refine q_iload_n C 2 rfl rfl dX7_numbers_202 ?_
        obtain ⟨r15, h⟩ := h
        obtain ⟨r16, h⟩ := h
        refine q_iast C hk0 rfl r16 r15 dX7_numbers_203 ?_
        exact hret (gu M a0 7 a1 x2) _ _ dX7_numbers_204 h
      · have h := h.2 b12
        refine q_iload C 4 rfl dX7_numbers_56 ?_
        refine q_bipush C (by decide) dX7_numbers_58 ?_
        refine q_iand C dX7_numbers_60 ?_
        obtain ⟨r17, h⟩ := h
        refine q_if_ne (tgt := 80) C r17 (by decide) dX7_numbers_61 (fun b18 => ?_) (fun b18 => ?_)
        · have h := h.1 b18
          exact t80 (wX7_numbers_50 kd ln post a0 a1 n) hk50_ x2 x3 x4 M h
        · have h := h.2 b18
          refine q_aload_n C 0 rfl rfl dX7_numbers_64 ?_
          obtain ⟨r19, h⟩ := h
          refine q_get (v := .ref (rh a0 6)) C fX7_30 hk0 (if_neg (Int.not_lt.mpr r19)) dX7_numbers_65 (fun g20 => ?_)
          refine q_sipush C (by decide) dX7_numbers_68 ?_
          refine q_iload_n C 1 rfl rfl dX7_numbers_71 ?_
          refine q_imul C dX7_numbers_72 ?_
          refine q_iload C 4 rfl dX7_numbers_73 ?_
          refine q_iconst C dX7_numbers_75 ?_
          refine q_ishr C dX7_numbers_76 ?_
          refine q_iadd C dX7_numbers_77 ?_
          refine q_iload_n C 2 rfl rfl dX7_numbers_78 ?_
          obtain ⟨r21, h⟩ := h
          obtain ⟨r22, h⟩ := h
          refine q_iast C hk0 rfl r22 r21 dX7_numbers_79 ?_
          exact t80 (wX7_numbers_50 kd ln post a0 a1 n) hk50_ x2 x3 x4 (gu M a0 6 ((16384 * a1) + (gishr x4 5)) x2) h
  have t2 : ∀ (n : Nat) (x2 : Int) (M : gM), wX7_numbers_2 kd ln post a0 a1 n x2 M → gW p l e (gRm 4 100) s m args below meth c D cy A H0 Q 9 kd ln rh 0 0 M 2 [(0, .ref (gad a0)), (1, .int (gI a1)), (2, .int (gI x2))] [] := by
    intro n
    induction n with
    | zero => intro x2 M h; exact absurd h (by simp [wX7_numbers_2])
    | succ n ih =>
      intro x2 M h
      have hk2_ := ih
      rw [wX7_numbers_2] at h
      refine q_iload_n C 2 rfl rfl dX7_numbers_2 ?_
      refine q_sipush C (by decide) dX7_numbers_3 ?_
      obtain ⟨r1, h⟩ := h
      refine q_icmp_ge (tgt := 28) C r1 (show rng 16384 by decide) (by decide) dX7_numbers_6 (fun b2 => ?_) (fun b2 => ?_)
      · have h := h.1 b2
        refine q_iconst C dX7_numbers_28 ?_
        refine q_istore_n (lv' := [(2, .int (gI 0)), (0, .ref (gad a0)), (1, .int (gI a1))]) C rfl (by decide) rfl dX7_numbers_29 ?_
        refine q_iconst C dX7_numbers_30 ?_
        refine q_aload_n C 1 rfl rfl dX7_numbers_31 ?_
        refine q_get (v := .int (gI (M a0 2 (-1)))) C fX7_13 hk0 rfl dX7_numbers_32 (fun g3 => ?_)
        have h := h g3
        refine q_imul C dX7_numbers_35 ?_
        refine q_aload_n C 1 rfl rfl dX7_numbers_36 ?_
        refine q_get (v := .int (gI (M a0 2 (-1)))) C fX7_13 hk0 rfl dX7_numbers_37 (fun g4 => ?_)
        refine q_imul C dX7_numbers_40 ?_
        refine q_aload_n C 1 rfl rfl dX7_numbers_41 ?_
        refine q_get (v := .int (gI (M a0 2 (-1)))) C fX7_13 hk0 rfl dX7_numbers_42 (fun g5 => ?_)
        refine q_imul C dX7_numbers_45 ?_
        refine q_topi (fun v6 ev6 => ?_)
        have h := h v6 ev6
        refine q_istore_n (lv' := [(3, .int (gI v6)), (2, .int (gI 0)), (0, .ref (gad a0)), (1, .int (gI a1))]) C rfl (by decide) rfl dX7_numbers_46 ?_
        refine q_iconst C dX7_numbers_47 ?_
        refine q_istore (lv' := [(4, .int (gI 0)), (3, .int (gI v6)), (2, .int (gI 0)), (0, .ref (gad a0)), (1, .int (gI a1))]) C (by decide) rfl dX7_numbers_48 ?_
        refine q_lv (lv' := [(0, .ref (gad a0)), (1, .int (gI a1)), (2, .int (gI 0)), (3, .int (gI v6)), (4, .int (gI 0))]) [3, 4, 2, 1, 0] rfl ?_
        obtain ⟨j50, h⟩ := h
        exact t50  j50 0 v6 0 M h
      · have h := h.2 b2
        refine q_aload_n C 0 rfl rfl dX7_numbers_9 ?_
        obtain ⟨r7, h⟩ := h
        refine q_get (v := .ref (rh a0 5)) C fX7_26 hk0 (if_neg (Int.not_lt.mpr r7)) dX7_numbers_10 (fun g8 => ?_)
        refine q_sipush C (by decide) dX7_numbers_13 ?_
        refine q_iload_n C 1 rfl rfl dX7_numbers_16 ?_
        refine q_imul C dX7_numbers_17 ?_
        refine q_iload_n C 2 rfl rfl dX7_numbers_18 ?_
        refine q_iadd C dX7_numbers_19 ?_
        refine q_iconst C dX7_numbers_20 ?_
        obtain ⟨r9, h⟩ := h
        refine q_iast C hk0 rfl (show rng 0 by decide) r9 dX7_numbers_21 ?_
        refine q_iinc (lv' := [(2, .int (gI (x2 + 1))), (0, .ref (gad a0)), (1, .int (gI a1))]) C 2 rfl (by decide) rfl dX7_numbers_22 ?_
        refine q_goto (tgt := 2) C (by decide) dX7_numbers_25 ?_
        refine q_lv (lv' := [(0, .ref (gad a0)), (1, .int (gI a1)), (2, .int (gI (x2 + 1)))]) [1, 2, 0] rfl ?_
        exact hk2_ (x2 + 1) (gu M a0 5 ((16384 * a1) + x2) 0) h
  unfold wX7_numbers at h
  refine q_iconst C dX7_numbers_0 ?_
  refine q_istore_n (lv' := [(2, .int (gI 0)), (0, .ref (gad a0)), (1, .int (gI a1))]) C rfl (by decide) rfl dX7_numbers_1 ?_
  refine q_lv (lv' := [(0, .ref (gad a0)), (1, .int (gI a1)), (2, .int (gI 0))]) [1, 2, 0] rfl ?_
  obtain ⟨j2, h⟩ := h
  exact t2  j2 0 M h
set_option maxHeartbeats 4000000 in
set_option maxRecDepth 100000 in
theorem mX7_make (l : Launch) (D : va_G) (cy : Nat → ClassId) (kd : gKd) (ln : gLn) (rh : gRh) (post : Int → gM → Prop) (a0 : Int) (a1 : Int) (M : gM) (hk0 : kd a0 = 7) (h : wX7_make kd ln post a0 a1 M) : gMI l D cy yX7_make cX7_make 3 .int 9 233 [.ref (gad a0), .int (gI a1)] kd ln rh M post := by
  refine gMI_of (own := RX7) (by decide) rfl (Nat.le_of_ble_eq_true rfl) ?_
  intro p e s m args below meth c A H0 Q C hret
  have t58 : ∀ (k27 : Int → gM → Prop), (∀ (x2 : Int), ∀ (M : gM), k27 x2 M → gW p l e (gRm 9 233) s m args below meth c D cy A H0 Q 3 kd ln rh 0 0 M 27 [(0, .ref (gad a0)), (1, .int (gI a1)), (2, .int (gI x2))] []) → ∀ (x2 : Int) (M : gM), wX7_make_58 kd ln post a0 a1 k27 x2 M → gW p l e (gRm 9 233) s m args below meth c D cy A H0 Q 3 kd ln rh 0 0 M 58 [(0, .ref (gad a0)), (1, .int (gI a1)), (2, .int (gI x2))] [] := by
    intro k27 hk27_ x2 M h
    unfold wX7_make_58 at h
    refine q_iinc (lv' := [(2, .int (gI (x2 + 1))), (0, .ref (gad a0)), (1, .int (gI a1))]) C 2 rfl (by decide) rfl dX7_make_58 ?_
    refine q_goto (tgt := 27) C (by decide) dX7_make_61 ?_
    refine q_lv (lv' := [(0, .ref (gad a0)), (1, .int (gI a1)), (2, .int (gI (x2 + 1)))]) [1, 2, 0] rfl ?_
    exact hk27_ (x2 + 1) M h
  have t27 : ∀ (n : Nat) (x2 : Int) (M : gM), wX7_make_27 kd ln post a0 a1 n x2 M → gW p l e (gRm 9 233) s m args below meth c D cy A H0 Q 3 kd ln rh 0 0 M 27 [(0, .ref (gad a0)), (1, .int (gI a1)), (2, .int (gI x2))] [] := by
    intro n
    induction n with
    | zero => intro x2 M h; exact absurd h (by simp [wX7_make_27])
    | succ n ih =>
      intro x2 M h
      have hk27_ := ih
      rw [wX7_make_27] at h
      refine q_iload_n C 2 rfl rfl dX7_make_27 ?_
      refine q_iload_n C 1 rfl rfl dX7_make_28 ?_
      obtain ⟨r7, h⟩ := h
      obtain ⟨r8, h⟩ := h
      refine q_icmp_gt (tgt := 64) C r7 r8 (by decide) dX7_make_29 (fun b9 => ?_) (fun b9 => ?_)
      · have h := h.1 b9
        refine q_aload_n C 0 rfl rfl dX7_make_64 ?_
        obtain ⟨r10, h⟩ := h
        refine q_get (v := .ref (rh a0 7)) C fX7_33 hk0 (if_neg (Int.not_lt.mpr r10)) dX7_make_65 (fun g11 => ?_)
        refine q_iload_n C 1 rfl rfl dX7_make_68 ?_
        obtain ⟨r12, h⟩ := h
        refine q_iald C hk0 rfl (fun _ q => q) r12 dX7_make_69 (fun g13 => ?_)
        have h := h g13
        exact hret (M a0 7 a1) M _ _ dX7_make_70 g13 h
      · have h := h.2 b9
        refine q_aload_n C 0 rfl rfl dX7_make_32 ?_
        obtain ⟨r14, h⟩ := h
        refine q_get (v := .ref (rh a0 3)) C fX7_16 hk0 (if_neg (Int.not_lt.mpr r14)) dX7_make_33 (fun g15 => ?_)
        refine q_iload_n C 2 rfl rfl dX7_make_36 ?_
        obtain ⟨r16, h⟩ := h
        refine q_zald C hk0 rfl (fun _ q => q) r16 dX7_make_37 (fun g17 => ?_)
        have h := h g17
        refine q_if_ne (tgt := 58) C g17 (by decide) dX7_make_38 (fun b18 => ?_) (fun b18 => ?_)
        · have h := h.1 b18
          exact t58 (wX7_make_27 kd ln post a0 a1 n) hk27_ x2 M h
        · have h := h.2 b18
          refine q_aload_n C 0 rfl rfl dX7_make_41 ?_
          refine q_iload_n C 2 rfl rfl dX7_make_42 ?_
          refine q_callVV (As := [.int (gI x2)]) (st := []) C vX7_127 kX7_layers ⟨Nat.le_of_ble_eq_true rfl, Nat.le_of_ble_eq_true rfl⟩ ⟨Nat.le_of_ble_eq_true rfl, Nat.le_of_ble_eq_true rfl⟩ rfl hk0 ⟨_, _, rfl⟩ (by decide) rfl (Nat.le_of_ble_eq_true rfl) (mX7_layers l D cy kd ln rh _ a0 x2 M hk0 h) dX7_make_43 (fun M19 h => ?_)
          refine q_aload_n C 0 rfl rfl dX7_make_46 ?_
          refine q_iload_n C 2 rfl rfl dX7_make_47 ?_
          refine q_callVV (As := [.int (gI x2)]) (st := []) C vX7_131 kX7_numbers ⟨Nat.le_of_ble_eq_true rfl, Nat.le_of_ble_eq_true rfl⟩ ⟨Nat.le_of_ble_eq_true rfl, Nat.le_of_ble_eq_true rfl⟩ rfl hk0 ⟨_, _, rfl⟩ (by decide) rfl (Nat.le_of_ble_eq_true rfl) (mX7_numbers l D cy kd ln rh _ a0 x2 M19 hk0 h) dX7_make_48 (fun M22 h => ?_)
          refine q_aload_n C 0 rfl rfl dX7_make_51 ?_
          refine q_get (v := .ref (rh a0 3)) C fX7_16 hk0 (if_neg (Int.not_lt.mpr r14)) dX7_make_52 (fun g25 => ?_)
          refine q_iload_n C 2 rfl rfl dX7_make_55 ?_
          refine q_iconst C dX7_make_56 ?_
          refine q_zast C hk0 rfl (rng1 (Or.inr rfl)) (Or.inr rfl) r16 dX7_make_57 ?_
          exact t58 (wX7_make_27 kd ln post a0 a1 n) hk27_ x2 (gu M22 a0 3 x2 1) h
  have t26 : ∀ (y0 : Int) (M : gM), wX7_make_26 kd ln post a0 a1 y0 M → gW p l e (gRm 9 233) s m args below meth c D cy A H0 Q 3 kd ln rh 0 0 M 26 [(0, .ref (gad a0)), (1, .int (gI a1))] [.int (gI y0)] := by
    intro  y0 M h
    unfold wX7_make_26 at h
    refine q_istore_n (lv' := [(2, .int (gI y0)), (0, .ref (gad a0)), (1, .int (gI a1))]) C rfl (by decide) rfl dX7_make_26 ?_
    refine q_lv (lv' := [(0, .ref (gad a0)), (1, .int (gI a1)), (2, .int (gI y0))]) [1, 2, 0] rfl ?_
    obtain ⟨j27, h⟩ := h
    exact t27  j27 y0 M h
  unfold wX7_make at h
  refine q_aload_n C 0 rfl rfl dX7_make_0 ?_
  refine q_iconst C dX7_make_1 ?_
  refine q_put (x := 0) (ty := .int) C fX7_81 hk0 (fun _ _ _ q => by cases q; rfl) (congrArg (fun z => Value.int (gI z)) gu_s) rfl rfl (show rng 0 by decide) (fun j q => absurd (show (0 : Nat) = j + 3 from q) (by omega)) dX7_make_2 ?_
  refine q_iload_n C 1 rfl rfl dX7_make_5 ?_
  refine q_iconst C dX7_make_6 ?_
  refine q_iconst C dX7_make_7 ?_
  refine q_callSI (As := [.int (gI a1), .int (gI 0), .int (gI 2)]) (st := []) C vX7_84 kX7_in ⟨Nat.le_of_ble_eq_true rfl, Nat.le_of_ble_eq_true rfl⟩ ⟨Nat.le_of_ble_eq_true rfl, Nat.le_of_ble_eq_true rfl⟩ rfl rfl (Nat.le_of_ble_eq_true rfl) (mX7_in l D cy kd ln rh _ a1 0 2 (gu M a0 0 (-1) 0)  h) dX7_make_8 (fun c2 M1 g3 h => ?_)
  have h := h g3
  refine q_if_ne (tgt := 16) C g3 (by decide) dX7_make_11 (fun b4 => ?_) (fun b4 => ?_)
  · have h := h.1 b4
    refine q_iload_n C 1 rfl rfl dX7_make_16 ?_
    refine q_iconst C dX7_make_17 ?_
    obtain ⟨r5, h⟩ := h
    refine q_icmp_ne (tgt := 25) C r5 (show rng 2 by decide) (by decide) dX7_make_18 (fun b6 => ?_) (fun b6 => ?_)
    · have h := h.1 b6
      refine q_iload_n C 1 rfl rfl dX7_make_25 ?_
      exact t26  a1 M1 h
    · have h := h.2 b6
      refine q_iconst C dX7_make_21 ?_
      refine q_goto (tgt := 26) C (by decide) dX7_make_22 ?_
      exact t26  0 M1 h
  · have h := h.2 b4
    refine q_iconst C dX7_make_14 ?_
    exact hret (-1) M1 _ _ dX7_make_15 (show rng (-1) by decide) h
