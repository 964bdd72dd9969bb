set_option maxHeartbeats 4000000 in
set_option maxRecDepth 100000 in
theorem mX7_backWhite (l : Launch) (D : va_G) (cy : Nat → ClassId) (kd : gKd) (ln : gLn) (rh : gRh) (post : gM → Prop) (a0 : Int) (a1 : Int) (a2 : Int) (a3 : Int) (a4 : Int) (a5 : Int) (M : gM) (hk0 : kd a0 = 7) (h : wX7_backWhite kd ln post a0 a1 a2 a3 a4 a5 M) : gMV l D cy yX7_backWhite cX7_backWhite 10 5 125 [.ref (gad a0), .int (gI a1), .int (gI a2), .int (gI a3), .int (gI a4), .int (gI a5)] kd ln rh M post := by
  refine gMV_of (own := RX7) (by decide) rfl (Nat.le_of_ble_eq_true rfl) ?_
  intro p e s m args below meth c A H0 Q C hret
  have t160 : ∀ (k3 : Int → gM → Prop), (∀ (x6 : Int), ∀ (M : gM), k3 x6 M → gW p l e (gRm 5 125) s m args below meth c D cy A H0 Q 10 kd ln rh 0 0 M 3 [(0, .ref (gad a0)), (1, .int (gI a1)), (2, .int (gI a2)), (3, .int (gI a3)), (4, .int (gI a4)), (5, .int (gI a5)), (6, .int (gI x6))] []) → ∀ (k12 : Int → Int → gM → Prop), (∀ (x6 : Int), ∀ (x7 : Int), ∀ (M : gM), k12 x6 x7 M → gW p l e (gRm 5 125) s m args below meth c D cy A H0 Q 10 kd ln rh 0 0 M 12 [(0, .ref (gad a0)), (1, .int (gI a1)), (2, .int (gI a2)), (3, .int (gI a3)), (4, .int (gI a4)), (5, .int (gI a5)), (6, .int (gI x6)), (7, .int (gI x7))] []) → ∀ (k117 : Int → Int → Int → gM → Prop), (∀ (x6 : Int), ∀ (x7 : Int), ∀ (x9 : Int), ∀ (M : gM), k117 x6 x7 x9 M → gW p l e (gRm 5 125) s m args below meth c D cy A H0 Q 10 kd ln rh 0 0 M 117 [(0, .ref (gad a0)), (1, .int (gI a1)), (2, .int (gI a2)), (3, .int (gI a3)), (4, .int (gI a4)), (5, .int (gI a5)), (6, .int (gI x6)), (7, .int (gI x7)), (9, .int (gI x9))] []) → ∀ (x6 : Int) (x7 : Int) (x9 : Int) (M : gM), wX7_backWhite_160 kd ln post a0 a1 a2 a3 a4 a5 k3 k12 k117 x6 x7 x9 M → gW p l e (gRm 5 125) s m args below meth c D cy A H0 Q 10 kd ln rh 0 0 M 160 [(0, .ref (gad a0)), (1, .int (gI a1)), (2, .int (gI a2)), (3, .int (gI a3)), (4, .int (gI a4)), (5, .int (gI a5)), (6, .int (gI x6)), (7, .int (gI x7)), (9, .int (gI x9))] [] := by
    intro k3 hk3_ k12 hk12_ k117 hk117_ x6 x7 x9 M h
    unfold wX7_backWhite_160 at h
    refine q_aload_n C 0 rfl rfl dX7_backWhite_160 ?_
    refine q_iload C 8 rfl dX7_backWhite_161 ?_
    refine q_iload C 6 rfl dX7_backWhite_163 ?_
    refine q_iload C 7 rfl dX7_backWhite_165 ?_
    refine q_callVI (As := [.int (gI x9), .int (gI x6), .int (gI x7)]) (st := []) C vX7_92 kX7_off ⟨Nat.le_of_ble_eq_true rfl, Nat.le_of_ble_eq_true rfl⟩ ⟨Nat.le_of_ble_eq_true rfl, Nat.le_of_ble_eq_true rfl⟩ rfl hk0 ⟨_, _, rfl⟩ (by decide) rfl (Nat.le_of_ble_eq_true rfl) (mX7_off l D cy kd ln rh _ a0 x9 x6 x7 M hk0 h) dX7_backWhite_167 (fun c56 M55 g57 h => ?_)
    have h := h g57
    refine q_istore (lv' := [(9, .int (gI c56)), (0, .ref (gad a0)), (1, .int (gI a1)), (2, .int (gI a2)), (3, .int (gI a3)), (4, .int (gI a4)), (5, .int (gI a5)), (6, .int (gI x6)), (7, .int (gI x7))]) C (by decide) rfl dX7_backWhite_170 ?_
    refine q_goto (tgt := 117) C (by decide) dX7_backWhite_172 ?_
    refine q_lv (lv' := [(0, .ref (gad a0)), (1, .int (gI a1)), (2, .int (gI a2)), (3, .int (gI a3)), (4, .int (gI a4)), (5, .int (gI a5)), (6, .int (gI x6)), (7, .int (gI x7)), (9, .int (gI c56))]) [1, 2, 3, 4, 5, 6, 7, 8, 0] rfl ?_
    exact hk117_ x6 x7 c56 M55 h
  have t175 : ∀ (k3 : Int → gM → Prop), (∀ (x6 : Int), ∀ (M : gM), k3 x6 M → gW p l e (gRm 5 125) s m args below meth c D cy A H0 Q 10 kd ln rh 0 0 M 3 [(0, .ref (gad a0)), (1, .int (gI a1)), (2, .int (gI a2)), (3, .int (gI a3)), (4, .int (gI a4)), (5, .int (gI a5)), (6, .int (gI x6))] []) → ∀ (k12 : Int → Int → gM → Prop), (∀ (x6 : Int), ∀ (x7 : Int), ∀ (M : gM), k12 x6 x7 M → gW p l e (gRm 5 125) s m args below meth c D cy A H0 Q 10 kd ln rh 0 0 M 12 [(0, .ref (gad a0)), (1, .int (gI a1)), (2, .int (gI a2)), (3, .int (gI a3)), (4, .int (gI a4)), (5, .int (gI a5)), (6, .int (gI x6)), (7, .int (gI x7))] []) → ∀ (x6 : Int) (x7 : Int) (M : gM), wX7_backWhite_175 kd ln post a0 a1 a2 a3 a4 a5 k3 k12 x6 x7 M → gW p l e (gRm 5 125) s m args below meth c D cy A H0 Q 10 kd ln rh 0 0 M 175 [(0, .ref (gad a0)), (1, .int (gI a1)), (2, .int (gI a2)), (3, .int (gI a3)), (4, .int (gI a4)), (5, .int (gI a5)), (6, .int (gI x6)), (7, .int (gI x7))] [] := by
    intro k3 hk3_ k12 hk12_ x6 x7 M h
    unfold wX7_backWhite_175 at h
    refine q_iinc (lv' := [(7, .int (gI (x7 + 1))), (0, .ref (gad a0)), (1, .int (gI a1)), (2, .int (gI a2)), (3, .int (gI a3)), (4, .int (gI a4)), (5, .int (gI a5)), (6, .int (gI x6))]) C 7 rfl (by decide) rfl dX7_backWhite_175 ?_
    refine q_goto (tgt := 12) C (by decide) dX7_backWhite_178 ?_
    refine q_lv (lv' := [(0, .ref (gad a0)), (1, .int (gI a1)), (2, .int (gI a2)), (3, .int (gI a3)), (4, .int (gI a4)), (5, .int (gI a5)), (6, .int (gI x6)), (7, .int (gI (x7 + 1)))]) [1, 2, 3, 4, 5, 6, 7, 0] rfl ?_
    exact hk12_ x6 (x7 + 1) M h
  have t117 : ∀ (k3 : Int → gM → Prop), (∀ (x6 : Int), ∀ (M : gM), k3 x6 M → gW p l e (gRm 5 125) s m args below meth c D cy A H0 Q 10 kd ln rh 0 0 M 3 [(0, .ref (gad a0)), (1, .int (gI a1)), (2, .int (gI a2)), (3, .int (gI a3)), (4, .int (gI a4)), (5, .int (gI a5)), (6, .int (gI x6))] []) → ∀ (k12 : Int → Int → gM → Prop), (∀ (x6 : Int), ∀ (x7 : Int), ∀ (M : gM), k12 x6 x7 M → gW p l e (gRm 5 125) s m args below meth c D cy A H0 Q 10 kd ln rh 0 0 M 12 [(0, .ref (gad a0)), (1, .int (gI a1)), (2, .int (gI a2)), (3, .int (gI a3)), (4, .int (gI a4)), (5, .int (gI a5)), (6, .int (gI x6)), (7, .int (gI x7))] []) → ∀ (n : Nat) (x6 : Int) (x7 : Int) (x9 : Int) (M : gM), wX7_backWhite_117 kd ln post a0 a1 a2 a3 a4 a5 k3 k12 n x6 x7 x9 M → gW p l e (gRm 5 125) s m args below meth c D cy A H0 Q 10 kd ln rh 0 0 M 117 [(0, .ref (gad a0)), (1, .int (gI a1)), (2, .int (gI a2)), (3, .int (gI a3)), (4, .int (gI a4)), (5, .int (gI a5)), (6, .int (gI x6)), (7, .int (gI x7)), (9, .int (gI x9))] [] := by
    intro k3 hk3_ k12 hk12_
    intro n
    induction n with
    | zero => intro x6 x7 x9 M h; exact absurd h (by simp [wX7_backWhite_117])
    | succ n ih =>
      intro x6 x7 x9 M h
      have hk117_ := ih
      rw [wX7_backWhite_117] at h
      refine q_iload C 8 rfl dX7_backWhite_117 ?_
      refine q_iconst C dX7_backWhite_119 ?_
      obtain ⟨r42, h⟩ := h
      refine q_icmp_eq (tgt := 175) C r42 (show rng (-1) by decide) (by decide) dX7_backWhite_120 (fun b43 => ?_) (fun b43 => ?_)
      · have h := h.1 b43
        refine q_lv (lv' := [(0, .ref (gad a0)), (1, .int (gI a1)), (2, .int (gI a2)), (3, .int (gI a3)), (4, .int (gI a4)), (5, .int (gI a5)), (6, .int (gI x6)), (7, .int (gI x7))]) [0, 1, 2, 3, 4, 5, 6, 7] rfl ?_
        exact t175 k3 hk3_ k12 hk12_ x6 x7 M h
      · have h := h.2 b43
        refine q_iload C 8 rfl dX7_backWhite_123 ?_
        refine q_iload_n C 2 rfl rfl dX7_backWhite_125 ?_
        obtain ⟨r44, h⟩ := h
        refine q_icmp_eq (tgt := 175) C r42 r44 (by decide) dX7_backWhite_126 (fun b45 => ?_) (fun b45 => ?_)
        · have h := h.1 b45
          refine q_lv (lv' := [(0, .ref (gad a0)), (1, .int (gI a1)), (2, .int (gI a2)), (3, .int (gI a3)), (4, .int (gI a4)), (5, .int (gI a5)), (6, .int (gI x6)), (7, .int (gI x7))]) [0, 1, 2, 3, 4, 5, 6, 7] rfl ?_
          exact t175 k3 hk3_ k12 hk12_ x6 x7 M h
        · have h := h.2 b45
          refine q_iload C 8 rfl dX7_backWhite_129 ?_
          refine q_iload_n C 3 rfl rfl dX7_backWhite_131 ?_
          obtain ⟨r46, h⟩ := h
          refine q_icmp_eq (tgt := 175) C r42 r46 (by decide) dX7_backWhite_132 (fun b47 => ?_) (fun b47 => ?_)
          · have h := h.1 b47
            refine q_lv (lv' := [(0, .ref (gad a0)), (1, .int (gI a1)), (2, .int (gI a2)), (3, .int (gI a3)), (4, .int (gI a4)), (5, .int (gI a5)), (6, .int (gI x6)), (7, .int (gI x7))]) [0, 1, 2, 3, 4, 5, 6, 7] rfl ?_
            exact t175 k3 hk3_ k12 hk12_ x6 x7 M h
          · have h := h.2 b47
            refine q_aload_n C 0 rfl rfl dX7_backWhite_135 ?_
            refine q_iload_n C 1 rfl rfl dX7_backWhite_136 ?_
            refine q_iload_n C 2 rfl rfl dX7_backWhite_137 ?_
            refine q_iload_n C 3 rfl rfl dX7_backWhite_138 ?_
            refine q_iload C 8 rfl dX7_backWhite_139 ?_
            refine q_iconst C dX7_backWhite_141 ?_
            refine q_callVI (As := [.int (gI a1), .int (gI a2), .int (gI a3), .int (gI x9), .int (gI 0)]) (st := []) C vX7_159 kX7_isOpen ⟨Nat.le_of_ble_eq_true rfl, Nat.le_of_ble_eq_true rfl⟩ ⟨Nat.le_of_ble_eq_true rfl, Nat.le_of_ble_eq_true rfl⟩ rfl hk0 ⟨_, _, rfl⟩ (by decide) rfl (Nat.le_of_ble_eq_true rfl) (mX7_isOpen l D cy kd ln rh _ a0 a1 a2 a3 x9 0 M hk0 h) dX7_backWhite_142 (fun c49 M48 g50 h => ?_)
            have h := h g50
            refine q_if_eq (tgt := 160) C g50 (by decide) dX7_backWhite_145 (fun b51 => ?_) (fun b51 => ?_)
            · have h := h.1 b51
              exact t160 k3 hk3_ k12 hk12_ (wX7_backWhite_117 kd ln post a0 a1 a2 a3 a4 a5 k3 k12 n) hk117_ x6 x7 x9 M48 h
            · have h := h.2 b51
              refine q_aload_n C 0 rfl rfl dX7_backWhite_148 ?_
              refine q_iload_n C 1 rfl rfl dX7_backWhite_149 ?_
              refine q_iload_n C 2 rfl rfl dX7_backWhite_150 ?_
              refine q_iload_n C 3 rfl rfl dX7_backWhite_151 ?_
              refine q_iload C 8 rfl dX7_backWhite_152 ?_
              refine q_iconst C dX7_backWhite_154 ?_
              refine q_iload C 5 rfl dX7_backWhite_155 ?_
              refine q_callVV (As := [.int (gI a1), .int (gI a2), .int (gI a3), .int (gI x9), .int (gI 0), .int (gI a5)]) (st := []) C vX7_142 kX7_decide ⟨Nat.le_of_ble_eq_true rfl, Nat.le_of_ble_eq_true rfl⟩ ⟨Nat.le_of_ble_eq_true rfl, Nat.le_of_ble_eq_true rfl⟩ rfl hk0 ⟨_, _, rfl⟩ (by decide) rfl (Nat.le_of_ble_eq_true rfl) (mX7_decide l D cy kd ln rh _ a0 a1 a2 a3 x9 0 a5 M48 hk0 h) dX7_backWhite_157 (fun M52 h => ?_)
              exact t160 k3 hk3_ k12 hk12_ (wX7_backWhite_117 kd ln post a0 a1 a2 a3 a4 a5 k3 k12 n) hk117_ x6 x7 x9 M52 h
  have t105 : ∀ (k3 : Int → gM → Prop), (∀ (x6 : Int), ∀ (M : gM), k3 x6 M → gW p l e (gRm 5 125) s m args below meth c D cy A H0 Q 10 kd ln rh 0 0 M 3 [(0, .ref (gad a0)), (1, .int (gI a1)), (2, .int (gI a2)), (3, .int (gI a3)), (4, .int (gI a4)), (5, .int (gI a5)), (6, .int (gI x6))] []) → ∀ (k12 : Int → Int → gM → Prop), (∀ (x6 : Int), ∀ (x7 : Int), ∀ (M : gM), k12 x6 x7 M → gW p l e (gRm 5 125) s m args below meth c D cy A H0 Q 10 kd ln rh 0 0 M 12 [(0, .ref (gad a0)), (1, .int (gI a1)), (2, .int (gI a2)), (3, .int (gI a3)), (4, .int (gI a4)), (5, .int (gI a5)), (6, .int (gI x6)), (7, .int (gI x7))] []) → ∀ (x6 : Int) (x7 : Int) (M : gM), wX7_backWhite_105 kd ln post a0 a1 a2 a3 a4 a5 k3 k12 x6 x7 M → gW p l e (gRm 5 125) s m args below meth c D cy A H0 Q 10 kd ln rh 0 0 M 105 [(0, .ref (gad a0)), (1, .int (gI a1)), (2, .int (gI a2)), (3, .int (gI a3)), (4, .int (gI a4)), (5, .int (gI a5)), (6, .int (gI x6)), (7, .int (gI x7))] [] := by
    intro k3 hk3_ k12 hk12_ x6 x7 M h
    unfold wX7_backWhite_105 at h
    refine q_aload_n C 0 rfl rfl dX7_backWhite_105 ?_
    refine q_iload C 4 rfl dX7_backWhite_106 ?_
    refine q_iload C 6 rfl dX7_backWhite_108 ?_
    refine q_iload C 7 rfl dX7_backWhite_110 ?_
    refine q_callVI (As := [.int (gI a4), .int (gI x6), .int (gI x7)]) (st := []) C vX7_92 kX7_off ⟨Nat.le_of_ble_eq_true rfl, Nat.le_of_ble_eq_true rfl⟩ ⟨Nat.le_of_ble_eq_true rfl, Nat.le_of_ble_eq_true rfl⟩ rfl hk0 ⟨_, _, rfl⟩ (by decide) rfl (Nat.le_of_ble_eq_true rfl) (mX7_off l D cy kd ln rh _ a0 a4 x6 x7 M hk0 h) dX7_backWhite_112 (fun c40 M39 g41 h => ?_)
    have h := h g41
    refine q_istore (lv' := [(9, .int (gI c40)), (0, .ref (gad a0)), (1, .int (gI a1)), (2, .int (gI a2)), (3, .int (gI a3)), (4, .int (gI a4)), (5, .int (gI a5)), (6, .int (gI x6)), (7, .int (gI x7))]) C (by decide) rfl dX7_backWhite_115 ?_
    refine q_lv (lv' := [(0, .ref (gad a0)), (1, .int (gI a1)), (2, .int (gI a2)), (3, .int (gI a3)), (4, .int (gI a4)), (5, .int (gI a5)), (6, .int (gI x6)), (7, .int (gI x7)), (9, .int (gI c40))]) [1, 2, 3, 4, 5, 6, 7, 8, 0] rfl ?_
    obtain ⟨j117, h⟩ := h
    exact t117 k3 hk3_ k12 hk12_ j117 x6 x7 c40 M39 h
  have t91 : ∀ (k3 : Int → gM → Prop), (∀ (x6 : Int), ∀ (M : gM), k3 x6 M → gW p l e (gRm 5 125) s m args below meth c D cy A H0 Q 10 kd ln rh 0 0 M 3 [(0, .ref (gad a0)), (1, .int (gI a1)), (2, .int (gI a2)), (3, .int (gI a3)), (4, .int (gI a4)), (5, .int (gI a5)), (6, .int (gI x6))] []) → ∀ (k12 : Int → Int → gM → Prop), (∀ (x6 : Int), ∀ (x7 : Int), ∀ (M : gM), k12 x6 x7 M → gW p l e (gRm 5 125) s m args below meth c D cy A H0 Q 10 kd ln rh 0 0 M 12 [(0, .ref (gad a0)), (1, .int (gI a1)), (2, .int (gI a2)), (3, .int (gI a3)), (4, .int (gI a4)), (5, .int (gI a5)), (6, .int (gI x6)), (7, .int (gI x7))] []) → ∀ (x6 : Int) (x7 : Int) (M : gM), wX7_backWhite_91 kd ln post a0 a1 a2 a3 a4 a5 k3 k12 x6 x7 M → gW p l e (gRm 5 125) s m args below meth c D cy A H0 Q 10 kd ln rh 0 0 M 91 [(0, .ref (gad a0)), (1, .int (gI a1)), (2, .int (gI a2)), (3, .int (gI a3)), (4, .int (gI a4)), (5, .int (gI a5)), (6, .int (gI x6)), (7, .int (gI x7))] [] := by
    intro k3 hk3_ k12 hk12_ x6 x7 M h
    unfold wX7_backWhite_91 at h
    refine q_iload_n C 1 rfl rfl dX7_backWhite_91 ?_
    obtain ⟨r33, h⟩ := h
    refine q_if_eq (tgt := 105) C r33 (by decide) dX7_backWhite_92 (fun b34 => ?_) (fun b34 => ?_)
    · have h := h.1 b34
      exact t105 k3 hk3_ k12 hk12_ x6 x7 M h
    · have h := h.2 b34
      refine q_iload C 6 rfl dX7_backWhite_95 ?_
      obtain ⟨r35, h⟩ := h
      refine q_if_eq (tgt := 105) C r35 (by decide) dX7_backWhite_97 (fun b36 => ?_) (fun b36 => ?_)
      · have h := h.1 b36
        exact t105 k3 hk3_ k12 hk12_ x6 x7 M h
      · have h := h.2 b36
        refine q_iload C 7 rfl dX7_backWhite_100 ?_
        obtain ⟨r37, h⟩ := h
        refine q_if_ne (tgt := 175) C r37 (by decide) dX7_backWhite_102 (fun b38 => ?_) (fun b38 => ?_)
        · have h := h.1 b38
          exact t175 k3 hk3_ k12 hk12_ x6 x7 M h
        · have h := h.2 b38
          exact t105 k3 hk3_ k12 hk12_ x6 x7 M h
  have t76 : ∀ (k3 : Int → gM → Prop), (∀ (x6 : Int), ∀ (M : gM), k3 x6 M → gW p l e (gRm 5 125) s m args below meth c D cy A H0 Q 10 kd ln rh 0 0 M 3 [(0, .ref (gad a0)), (1, .int (gI a1)), (2, .int (gI a2)), (3, .int (gI a3)), (4, .int (gI a4)), (5, .int (gI a5)), (6, .int (gI x6))] []) → ∀ (k12 : Int → Int → gM → Prop), (∀ (x6 : Int), ∀ (x7 : Int), ∀ (M : gM), k12 x6 x7 M → gW p l e (gRm 5 125) s m args below meth c D cy A H0 Q 10 kd ln rh 0 0 M 12 [(0, .ref (gad a0)), (1, .int (gI a1)), (2, .int (gI a2)), (3, .int (gI a3)), (4, .int (gI a4)), (5, .int (gI a5)), (6, .int (gI x6)), (7, .int (gI x7))] []) → ∀ (x6 : Int) (x7 : Int) (M : gM), wX7_backWhite_76 kd ln post a0 a1 a2 a3 a4 a5 k3 k12 x6 x7 M → gW p l e (gRm 5 125) s m args below meth c D cy A H0 Q 10 kd ln rh 0 0 M 76 [(0, .ref (gad a0)), (1, .int (gI a1)), (2, .int (gI a2)), (3, .int (gI a3)), (4, .int (gI a4)), (5, .int (gI a5)), (6, .int (gI x6)), (7, .int (gI x7))] [] := by
    intro k3 hk3_ k12 hk12_ x6 x7 M h
    unfold wX7_backWhite_76 at h
    refine q_iload_n C 1 rfl rfl dX7_backWhite_76 ?_
    refine q_iconst C dX7_backWhite_77 ?_
    obtain ⟨r27, h⟩ := h
    refine q_icmp_ge (tgt := 175) C r27 (show rng 2 by decide) (by decide) dX7_backWhite_78 (fun b28 => ?_) (fun b28 => ?_)
    · have h := h.1 b28
      exact t175 k3 hk3_ k12 hk12_ x6 x7 M h
    · have h := h.2 b28
      refine q_iload C 6 rfl dX7_backWhite_81 ?_
      obtain ⟨r29, h⟩ := h
      refine q_if_ne (tgt := 91) C r29 (by decide) dX7_backWhite_83 (fun b30 => ?_) (fun b30 => ?_)
      · have h := h.1 b30
        exact t91 k3 hk3_ k12 hk12_ x6 x7 M h
      · have h := h.2 b30
        refine q_iload C 7 rfl dX7_backWhite_86 ?_
        obtain ⟨r31, h⟩ := h
        refine q_if_eq (tgt := 175) C r31 (by decide) dX7_backWhite_88 (fun b32 => ?_) (fun b32 => ?_)
        · have h := h.1 b32
          exact t175 k3 hk3_ k12 hk12_ x6 x7 M h
        · have h := h.2 b32
          exact t91 k3 hk3_ k12 hk12_ x6 x7 M h
  have t41 : ∀ (k3 : Int → gM → Prop), (∀ (x6 : Int), ∀ (M : gM), k3 x6 M → gW p l e (gRm 5 125) s m args below meth c D cy A H0 Q 10 kd ln rh 0 0 M 3 [(0, .ref (gad a0)), (1, .int (gI a1)), (2, .int (gI a2)), (3, .int (gI a3)), (4, .int (gI a4)), (5, .int (gI a5)), (6, .int (gI x6))] []) → ∀ (k12 : Int → Int → gM → Prop), (∀ (x6 : Int), ∀ (x7 : Int), ∀ (M : gM), k12 x6 x7 M → gW p l e (gRm 5 125) s m args below meth c D cy A H0 Q 10 kd ln rh 0 0 M 12 [(0, .ref (gad a0)), (1, .int (gI a1)), (2, .int (gI a2)), (3, .int (gI a3)), (4, .int (gI a4)), (5, .int (gI a5)), (6, .int (gI x6)), (7, .int (gI x7))] []) → ∀ (x6 : Int) (x7 : Int) (y0 : Int) (M : gM), wX7_backWhite_41 kd ln post a0 a1 a2 a3 a4 a5 k3 k12 x6 x7 y0 M → gW p l e (gRm 5 125) s m args below meth c D cy A H0 Q 10 kd ln rh 0 0 M 41 [(0, .ref (gad a0)), (1, .int (gI a1)), (2, .int (gI a2)), (3, .int (gI a3)), (4, .int (gI a4)), (5, .int (gI a5)), (6, .int (gI x6)), (7, .int (gI x7))] [.int (gI y0)] := by
    intro k3 hk3_ k12 hk12_ x6 x7 y0 M h
    unfold wX7_backWhite_41 at h
    refine q_istore (lv' := [(8, .int (gI y0)), (0, .ref (gad a0)), (1, .int (gI a1)), (2, .int (gI a2)), (3, .int (gI a3)), (4, .int (gI a4)), (5, .int (gI a5)), (6, .int (gI x6)), (7, .int (gI x7))]) C (by decide) rfl dX7_backWhite_41 ?_
    refine q_iload C 0 rfl dX7_backWhite_43 ?_
    refine q_iconst C dX7_backWhite_45 ?_
    obtain ⟨r18, h⟩ := h
    refine q_icmp_eq (tgt := 76) C r18 (show rng (-1) by decide) (by decide) dX7_backWhite_46 (fun b19 => ?_) (fun b19 => ?_)
    · have h := h.1 b19
      refine q_lv (lv' := [(0, .ref (gad a0)), (1, .int (gI a1)), (2, .int (gI a2)), (3, .int (gI a3)), (4, .int (gI a4)), (5, .int (gI a5)), (6, .int (gI x6)), (7, .int (gI x7))]) [1, 2, 3, 4, 5, 6, 7, 8] rfl ?_
      exact t76 k3 hk3_ k12 hk12_ x6 x7 M h
    · have h := h.2 b19
      refine q_aload_n C 1 rfl rfl dX7_backWhite_49 ?_
      refine q_iload_n C 2 rfl rfl dX7_backWhite_50 ?_
      refine q_iload C 0 rfl dX7_backWhite_51 ?_
      refine q_iload_n C 4 rfl rfl dX7_backWhite_53 ?_
      refine q_iload C 5 rfl dX7_backWhite_54 ?_
      refine q_iconst C dX7_backWhite_56 ?_
      refine q_callVI (As := [.int (gI a1), .int (gI y0), .int (gI a3), .int (gI a4), .int (gI 0)]) (st := []) C vX7_159 kX7_isOpen ⟨Nat.le_of_ble_eq_true rfl, Nat.le_of_ble_eq_true rfl⟩ ⟨Nat.le_of_ble_eq_true rfl, Nat.le_of_ble_eq_true rfl⟩ rfl hk0 ⟨_, _, rfl⟩ (by decide) rfl (Nat.le_of_ble_eq_true rfl) (mX7_isOpen l D cy kd ln rh _ a0 a1 y0 a3 a4 0 M hk0 h) dX7_backWhite_57 (fun c21 M20 g22 h => ?_)
      have h := h g22
      refine q_if_eq (tgt := 76) C g22 (by decide) dX7_backWhite_60 (fun b23 => ?_) (fun b23 => ?_)
      · have h := h.1 b23
        refine q_lv (lv' := [(0, .ref (gad a0)), (1, .int (gI a1)), (2, .int (gI a2)), (3, .int (gI a3)), (4, .int (gI a4)), (5, .int (gI a5)), (6, .int (gI x6)), (7, .int (gI x7))]) [1, 2, 3, 4, 5, 6, 7, 8] rfl ?_
        exact t76 k3 hk3_ k12 hk12_ x6 x7 M20 h
      · have h := h.2 b23
        refine q_aload_n C 1 rfl rfl dX7_backWhite_63 ?_
        refine q_iload_n C 2 rfl rfl dX7_backWhite_64 ?_
        refine q_iload C 0 rfl dX7_backWhite_65 ?_
        refine q_iload_n C 4 rfl rfl dX7_backWhite_67 ?_
        refine q_iload C 5 rfl dX7_backWhite_68 ?_
        refine q_iconst C dX7_backWhite_70 ?_
        refine q_iload C 6 rfl dX7_backWhite_71 ?_
        refine q_callVV (As := [.int (gI a1), .int (gI y0), .int (gI a3), .int (gI a4), .int (gI 0), .int (gI a5)]) (st := []) C vX7_142 kX7_decide ⟨Nat.le_of_ble_eq_true rfl, Nat.le_of_ble_eq_true rfl⟩ ⟨Nat.le_of_ble_eq_true rfl, Nat.le_of_ble_eq_true rfl⟩ rfl hk0 ⟨_, _, rfl⟩ (by decide) rfl (Nat.le_of_ble_eq_true rfl) (mX7_decide l D cy kd ln rh _ a0 a1 y0 a3 a4 0 a5 M20 hk0 h) dX7_backWhite_73 (fun M24 h => ?_)
        refine q_lv (lv' := [(0, .ref (gad a0)), (1, .int (gI a1)), (2, .int (gI a2)), (3, .int (gI a3)), (4, .int (gI a4)), (5, .int (gI a5)), (6, .int (gI x6)), (7, .int (gI x7))]) [1, 2, 3, 4, 5, 6, 7, 8] rfl ?_
        exact t76 k3 hk3_ k12 hk12_ x6 x7 M24 h
  have t32 : ∀ (k3 : Int → gM → Prop), (∀ (x6 : Int), ∀ (M : gM), k3 x6 M → gW p l e (gRm 5 125) s m args below meth c D cy A H0 Q 10 kd ln rh 0 0 M 3 [(0, .ref (gad a0)), (1, .int (gI a1)), (2, .int (gI a2)), (3, .int (gI a3)), (4, .int (gI a4)), (5, .int (gI a5)), (6, .int (gI x6))] []) → ∀ (k12 : Int → Int → gM → Prop), (∀ (x6 : Int), ∀ (x7 : Int), ∀ (M : gM), k12 x6 x7 M → gW p l e (gRm 5 125) s m args below meth c D cy A H0 Q 10 kd ln rh 0 0 M 12 [(0, .ref (gad a0)), (1, .int (gI a1)), (2, .int (gI a2)), (3, .int (gI a3)), (4, .int (gI a4)), (5, .int (gI a5)), (6, .int (gI x6)), (7, .int (gI x7))] []) → ∀ (x6 : Int) (x7 : Int) (M : gM), wX7_backWhite_32 kd ln post a0 a1 a2 a3 a4 a5 k3 k12 x6 x7 M → gW p l e (gRm 5 125) s m args below meth c D cy A H0 Q 10 kd ln rh 0 0 M 32 [(0, .ref (gad a0)), (1, .int (gI a1)), (2, .int (gI a2)), (3, .int (gI a3)), (4, .int (gI a4)), (5, .int (gI a5)), (6, .int (gI x6)), (7, .int (gI x7))] [] := by
    intro k3 hk3_ k12 hk12_ x6 x7 M h
    unfold wX7_backWhite_32 at h
    refine q_aload_n C 0 rfl rfl dX7_backWhite_32 ?_
    refine q_iload_n C 2 rfl rfl dX7_backWhite_33 ?_
    refine q_iload C 6 rfl dX7_backWhite_34 ?_
    refine q_iload C 7 rfl dX7_backWhite_36 ?_
    refine q_callVI (As := [.int (gI a2), .int (gI x6), .int (gI x7)]) (st := []) C vX7_92 kX7_off ⟨Nat.le_of_ble_eq_true rfl, Nat.le_of_ble_eq_true rfl⟩ ⟨Nat.le_of_ble_eq_true rfl, Nat.le_of_ble_eq_true rfl⟩ rfl hk0 ⟨_, _, rfl⟩ (by decide) rfl (Nat.le_of_ble_eq_true rfl) (mX7_off l D cy kd ln rh _ a0 a2 x6 x7 M hk0 h) dX7_backWhite_38 (fun c59 M58 g60 h => ?_)
    have h := h g60
    exact t41 k3 hk3_ k12 hk12_ x6 x7 c59 M58 h
  have t12 : ∀ (k3 : Int → gM → Prop), (∀ (x6 : Int), ∀ (M : gM), k3 x6 M → gW p l e (gRm 5 125) s m args below meth c D cy A H0 Q 10 kd ln rh 0 0 M 3 [(0, .ref (gad a0)), (1, .int (gI a1)), (2, .int (gI a2)), (3, .int (gI a3)), (4, .int (gI a4)), (5, .int (gI a5)), (6, .int (gI x6))] []) → ∀ (n : Nat) (x6 : Int) (x7 : Int) (M : gM), wX7_backWhite_12 kd ln post a0 a1 a2 a3 a4 a5 k3 n x6 x7 M → gW p l e (gRm 5 125) s m args below meth c D cy A H0 Q 10 kd ln rh 0 0 M 12 [(0, .ref (gad a0)), (1, .int (gI a1)), (2, .int (gI a2)), (3, .int (gI a3)), (4, .int (gI a4)), (5, .int (gI a5)), (6, .int (gI x6)), (7, .int (gI x7))] [] := by
    intro k3 hk3_
    intro n
    induction n with
    | zero => intro x6 x7 M h; exact absurd h (by simp [wX7_backWhite_12])
    | succ n ih =>
      intro x6 x7 M h
      have hk12_ := ih
      rw [wX7_backWhite_12] at h
      refine q_iload C 7 rfl dX7_backWhite_12 ?_
      refine q_iconst C dX7_backWhite_14 ?_
      obtain ⟨r13, h⟩ := h
      refine q_icmp_gt (tgt := 181) C r13 (show rng 1 by decide) (by decide) dX7_backWhite_15 (fun b14 => ?_) (fun b14 => ?_)
      · have h := h.1 b14
        refine q_iinc (lv' := [(6, .int (gI (x6 + 1))), (0, .ref (gad a0)), (1, .int (gI a1)), (2, .int (gI a2)), (3, .int (gI a3)), (4, .int (gI a4)), (5, .int (gI a5)), (7, .int (gI x7))]) C 6 rfl (by decide) rfl dX7_backWhite_181 ?_
        refine q_goto (tgt := 3) C (by decide) dX7_backWhite_184 ?_
        refine q_lv (lv' := [(0, .ref (gad a0)), (1, .int (gI a1)), (2, .int (gI a2)), (3, .int (gI a3)), (4, .int (gI a4)), (5, .int (gI a5)), (6, .int (gI (x6 + 1)))]) [1, 2, 3, 4, 5, 6, 0] rfl ?_
        exact hk3_ (x6 + 1) M h
      · have h := h.2 b14
        refine q_iload C 6 rfl dX7_backWhite_18 ?_
        obtain ⟨r15, h⟩ := h
        refine q_if_ne (tgt := 32) C r15 (by decide) dX7_backWhite_20 (fun b16 => ?_) (fun b16 => ?_)
        · have h := h.1 b16
          exact t32 k3 hk3_ (wX7_backWhite_12 kd ln post a0 a1 a2 a3 a4 a5 k3 n) hk12_ x6 x7 M h
        · have h := h.2 b16
          refine q_iload C 7 rfl dX7_backWhite_23 ?_
          refine q_if_ne (tgt := 32) C r13 (by decide) dX7_backWhite_25 (fun b17 => ?_) (fun b17 => ?_)
          · have h := h.1 b17
            exact t32 k3 hk3_ (wX7_backWhite_12 kd ln post a0 a1 a2 a3 a4 a5 k3 n) hk12_ x6 x7 M h
          · have h := h.2 b17
            refine q_iconst C dX7_backWhite_28 ?_
            refine q_goto (tgt := 41) C (by decide) dX7_backWhite_29 ?_
            exact t41 k3 hk3_ (wX7_backWhite_12 kd ln post a0 a1 a2 a3 a4 a5 k3 n) hk12_ x6 x7 (-1) M h
  have t255 : ∀ (x6 : Int) (x7 : Int) (M : gM), wX7_backWhite_255 kd ln post a0 a1 a2 a3 a4 a5 x6 x7 M → gW p l e (gRm 5 125) s m args below meth c D cy A H0 Q 10 kd ln rh 0 0 M 255 [(0, .ref (gad a0)), (1, .int (gI a1)), (2, .int (gI a2)), (3, .int (gI a3)), (4, .int (gI a4)), (5, .int (gI a5)), (6, .int (gI x6)), (7, .int (gI x7))] [] := by
    intro  x6 x7 M h
    unfold wX7_backWhite_255 at h
    refine q_iload C 7 rfl dX7_backWhite_255 ?_
    obtain ⟨r70, h⟩ := h
    refine q_if_eq (tgt := 306) C r70 (by decide) dX7_backWhite_257 (fun b71 => ?_) (fun b71 => ?_)
    · have h := h.1 b71
      exact hret M _ _ dX7_backWhite_306 h
    · have h := h.2 b71
      refine q_iload C 4 rfl dX7_backWhite_260 ?_
      refine q_aload_n C 0 rfl rfl dX7_backWhite_262 ?_
      refine q_get (v := .int (gI (M a0 1 (-1)))) C fX7_7 hk0 rfl dX7_backWhite_263 (fun g72 => ?_)
      have h := h g72
      obtain ⟨r73, h⟩ := h
      refine q_idiv C r73 dX7_backWhite_266 ?_
      refine q_iconst C dX7_backWhite_267 ?_
      obtain ⟨r74, h⟩ := h
      refine q_icmp_ne (tgt := 306) C r74 (show rng 3 by decide) (by decide) dX7_backWhite_268 (fun b75 => ?_) (fun b75 => ?_)
      · have h := h.1 b75
        exact hret M _ _ dX7_backWhite_306 h
      · have h := h.2 b75
        refine q_aload_n C 0 rfl rfl dX7_backWhite_271 ?_
        refine q_iload_n C 1 rfl rfl dX7_backWhite_272 ?_
        refine q_iload_n C 2 rfl rfl dX7_backWhite_273 ?_
        refine q_iload_n C 3 rfl rfl dX7_backWhite_274 ?_
        refine q_iload C 6 rfl dX7_backWhite_275 ?_
        refine q_aload_n C 0 rfl rfl dX7_backWhite_277 ?_
        refine q_get (v := .int (gI (M a0 1 (-1)))) C fX7_7 hk0 rfl dX7_backWhite_278 (fun g76 => ?_)
        refine q_isub C dX7_backWhite_281 ?_
        refine q_iconst C dX7_backWhite_282 ?_
        refine q_callVI (As := [.int (gI a1), .int (gI a2), .int (gI a3), .int (gI (x6 - (M a0 1 (-1)))), .int (gI 0)]) (st := []) C vX7_159 kX7_isOpen ⟨Nat.le_of_ble_eq_true rfl, Nat.le_of_ble_eq_true rfl⟩ ⟨Nat.le_of_ble_eq_true rfl, Nat.le_of_ble_eq_true rfl⟩ rfl hk0 ⟨_, _, rfl⟩ (by decide) rfl (Nat.le_of_ble_eq_true rfl) (mX7_isOpen l D cy kd ln rh _ a0 a1 a2 a3 (x6 - (M a0 1 (-1))) 0 M hk0 h) dX7_backWhite_283 (fun c78 M77 g79 h => ?_)
        have h := h g79
        refine q_if_eq (tgt := 306) C g79 (by decide) dX7_backWhite_286 (fun b80 => ?_) (fun b80 => ?_)
        · have h := h.1 b80
          exact hret M77 _ _ dX7_backWhite_306 h
        · have h := h.2 b80
          refine q_aload_n C 0 rfl rfl dX7_backWhite_289 ?_
          refine q_iload_n C 1 rfl rfl dX7_backWhite_290 ?_
          refine q_iload_n C 2 rfl rfl dX7_backWhite_291 ?_
          refine q_iload_n C 3 rfl rfl dX7_backWhite_292 ?_
          refine q_iload C 6 rfl dX7_backWhite_293 ?_
          refine q_aload_n C 0 rfl rfl dX7_backWhite_295 ?_
          refine q_get (v := .int (gI (M77 a0 1 (-1)))) C fX7_7 hk0 rfl dX7_backWhite_296 (fun g81 => ?_)
          have h := h g81
          refine q_isub C dX7_backWhite_299 ?_
          refine q_iconst C dX7_backWhite_300 ?_
          refine q_iload C 5 rfl dX7_backWhite_301 ?_
          refine q_callVV (As := [.int (gI a1), .int (gI a2), .int (gI a3), .int (gI (x6 - (M77 a0 1 (-1)))), .int (gI 0), .int (gI a5)]) (st := []) C vX7_142 kX7_decide ⟨Nat.le_of_ble_eq_true rfl, Nat.le_of_ble_eq_true rfl⟩ ⟨Nat.le_of_ble_eq_true rfl, Nat.le_of_ble_eq_true rfl⟩ rfl hk0 ⟨_, _, rfl⟩ (by decide) rfl (Nat.le_of_ble_eq_true rfl) (mX7_decide l D cy kd ln rh _ a0 a1 a2 a3 (x6 - (M77 a0 1 (-1))) 0 a5 M77 hk0 h) dX7_backWhite_303 (fun M82 h => ?_)
          exact hret M82 _ _ dX7_backWhite_306 h
  have t223 : ∀ (x6 : Int) (y0 : Int) (M : gM), wX7_backWhite_223 kd ln post a0 a1 a2 a3 a4 a5 x6 y0 M → gW p l e (gRm 5 125) s m args below meth c D cy A H0 Q 10 kd ln rh 0 0 M 223 [(0, .ref (gad a0)), (1, .int (gI a1)), (2, .int (gI a2)), (3, .int (gI a3)), (4, .int (gI a4)), (5, .int (gI a5)), (6, .int (gI x6))] [.int (gI y0)] := by
    intro  x6 y0 M h
    unfold wX7_backWhite_223 at h
    refine q_istore (lv' := [(7, .int (gI y0)), (0, .ref (gad a0)), (1, .int (gI a1)), (2, .int (gI a2)), (3, .int (gI a3)), (4, .int (gI a4)), (5, .int (gI a5)), (6, .int (gI x6))]) C (by decide) rfl dX7_backWhite_223 ?_
    refine q_iload C 0 rfl dX7_backWhite_225 ?_
    obtain ⟨r61, h⟩ := h
    refine q_if_eq (tgt := 255) C r61 (by decide) dX7_backWhite_227 (fun b62 => ?_) (fun b62 => ?_)
    · have h := h.1 b62
      refine q_lv (lv' := [(0, .ref (gad a0)), (1, .int (gI a1)), (2, .int (gI a2)), (3, .int (gI a3)), (4, .int (gI a4)), (5, .int (gI a5)), (6, .int (gI x6)), (7, .int (gI y0))]) [1, 2, 3, 4, 5, 6, 7, 0] rfl ?_
      exact t255  x6 y0 M h
    · have h := h.2 b62
      refine q_aload_n C 1 rfl rfl dX7_backWhite_230 ?_
      refine q_iload_n C 2 rfl rfl dX7_backWhite_231 ?_
      refine q_iload_n C 3 rfl rfl dX7_backWhite_232 ?_
      refine q_iload_n C 4 rfl rfl dX7_backWhite_233 ?_
      refine q_iload C 7 rfl dX7_backWhite_234 ?_
      refine q_iconst C dX7_backWhite_236 ?_
      refine q_callVI (As := [.int (gI a1), .int (gI a2), .int (gI a3), .int (gI x6), .int (gI 0)]) (st := []) C vX7_159 kX7_isOpen ⟨Nat.le_of_ble_eq_true rfl, Nat.le_of_ble_eq_true rfl⟩ ⟨Nat.le_of_ble_eq_true rfl, Nat.le_of_ble_eq_true rfl⟩ rfl hk0 ⟨_, _, rfl⟩ (by decide) rfl (Nat.le_of_ble_eq_true rfl) (mX7_isOpen l D cy kd ln rh _ a0 a1 a2 a3 x6 0 M hk0 h) dX7_backWhite_237 (fun c64 M63 g65 h => ?_)
      have h := h g65
      refine q_if_eq (tgt := 255) C g65 (by decide) dX7_backWhite_240 (fun b66 => ?_) (fun b66 => ?_)
      · have h := h.1 b66
        refine q_lv (lv' := [(0, .ref (gad a0)), (1, .int (gI a1)), (2, .int (gI a2)), (3, .int (gI a3)), (4, .int (gI a4)), (5, .int (gI a5)), (6, .int (gI x6)), (7, .int (gI y0))]) [1, 2, 3, 4, 5, 6, 7, 0] rfl ?_
        exact t255  x6 y0 M63 h
      · have h := h.2 b66
        refine q_aload_n C 1 rfl rfl dX7_backWhite_243 ?_
        refine q_iload_n C 2 rfl rfl dX7_backWhite_244 ?_
        refine q_iload_n C 3 rfl rfl dX7_backWhite_245 ?_
        refine q_iload_n C 4 rfl rfl dX7_backWhite_246 ?_
        refine q_iload C 7 rfl dX7_backWhite_247 ?_
        refine q_iconst C dX7_backWhite_249 ?_
        refine q_iload C 6 rfl dX7_backWhite_250 ?_
        refine q_callVV (As := [.int (gI a1), .int (gI a2), .int (gI a3), .int (gI x6), .int (gI 0), .int (gI a5)]) (st := []) C vX7_142 kX7_decide ⟨Nat.le_of_ble_eq_true rfl, Nat.le_of_ble_eq_true rfl⟩ ⟨Nat.le_of_ble_eq_true rfl, Nat.le_of_ble_eq_true rfl⟩ rfl hk0 ⟨_, _, rfl⟩ (by decide) rfl (Nat.le_of_ble_eq_true rfl) (mX7_decide l D cy kd ln rh _ a0 a1 a2 a3 x6 0 a5 M63 hk0 h) dX7_backWhite_252 (fun M67 h => ?_)
        refine q_lv (lv' := [(0, .ref (gad a0)), (1, .int (gI a1)), (2, .int (gI a2)), (3, .int (gI a3)), (4, .int (gI a4)), (5, .int (gI a5)), (6, .int (gI x6)), (7, .int (gI y0))]) [1, 2, 3, 4, 5, 6, 7, 0] rfl ?_
        exact t255  x6 y0 M67 h
  have t222 : ∀ (x6 : Int) (M : gM), wX7_backWhite_222 kd ln post a0 a1 a2 a3 a4 a5 x6 M → gW p l e (gRm 5 125) s m args below meth c D cy A H0 Q 10 kd ln rh 0 0 M 222 [(0, .ref (gad a0)), (1, .int (gI a1)), (2, .int (gI a2)), (3, .int (gI a3)), (4, .int (gI a4)), (5, .int (gI a5)), (6, .int (gI x6))] [] := by
    intro  x6 M h
    unfold wX7_backWhite_222 at h
    refine q_iconst C dX7_backWhite_222 ?_
    exact t223  x6 0 M h
  have t3 : ∀ (n : Nat) (x6 : Int) (M : gM), wX7_backWhite_3 kd ln post a0 a1 a2 a3 a4 a5 n x6 M → gW p l e (gRm 5 125) s m args below meth c D cy A H0 Q 10 kd ln rh 0 0 M 3 [(0, .ref (gad a0)), (1, .int (gI a1)), (2, .int (gI a2)), (3, .int (gI a3)), (4, .int (gI a4)), (5, .int (gI a5)), (6, .int (gI x6))] [] := by
    intro n
    induction n with
    | zero => intro x6 M h; exact absurd h (by simp [wX7_backWhite_3])
    | succ n ih =>
      intro x6 M h
      have hk3_ := ih
      rw [wX7_backWhite_3] at h
      refine q_iload C 6 rfl dX7_backWhite_3 ?_
      refine q_iconst C dX7_backWhite_5 ?_
      obtain ⟨r1, h⟩ := h
      refine q_icmp_gt (tgt := 187) C r1 (show rng 1 by decide) (by decide) dX7_backWhite_6 (fun b2 => ?_) (fun b2 => ?_)
      · have h := h.1 b2
        refine q_iload_n C 1 rfl rfl dX7_backWhite_187 ?_
        refine q_iconst C dX7_backWhite_188 ?_
        obtain ⟨r3, h⟩ := h
        refine q_icmp_ne (tgt := 306) C r3 (show rng 2 by decide) (by decide) dX7_backWhite_189 (fun b4 => ?_) (fun b4 => ?_)
        · have h := h.1 b4
          exact hret M _ _ dX7_backWhite_306 h
        · have h := h.2 b4
          refine q_iload C 4 rfl dX7_backWhite_192 ?_
          refine q_aload_n C 0 rfl rfl dX7_backWhite_194 ?_
          refine q_get (v := .int (gI (M a0 1 (-1)))) C fX7_7 hk0 rfl dX7_backWhite_195 (fun g5 => ?_)
          have h := h g5
          refine q_isub C dX7_backWhite_198 ?_
          refine q_topi (fun v6 ev6 => ?_)
          have h := h v6 ev6
          refine q_istore (lv' := [(6, .int (gI v6)), (0, .ref (gad a0)), (1, .int (gI a1)), (2, .int (gI a2)), (3, .int (gI a3)), (4, .int (gI a4)), (5, .int (gI a5))]) C (by decide) rfl dX7_backWhite_199 ?_
          refine q_iload C 0 rfl dX7_backWhite_201 ?_
          obtain ⟨r7, h⟩ := h
          refine q_if_lt (tgt := 222) C r7 (by decide) dX7_backWhite_203 (fun b8 => ?_) (fun b8 => ?_)
          · have h := h.1 b8
            refine q_lv (lv' := [(0, .ref (gad a0)), (1, .int (gI a1)), (2, .int (gI a2)), (3, .int (gI a3)), (4, .int (gI a4)), (5, .int (gI a5)), (6, .int (gI v6))]) [1, 2, 3, 4, 5, 6, 0] rfl ?_
            exact t222  v6 M h
          · have h := h.2 b8
            refine q_iload C 0 rfl dX7_backWhite_206 ?_
            refine q_iload_n C 3 rfl rfl dX7_backWhite_208 ?_
            obtain ⟨r9, h⟩ := h
            refine q_icmp_eq (tgt := 222) C r7 r9 (by decide) dX7_backWhite_209 (fun b10 => ?_) (fun b10 => ?_)
            · have h := h.1 b10
              refine q_lv (lv' := [(0, .ref (gad a0)), (1, .int (gI a1)), (2, .int (gI a2)), (3, .int (gI a3)), (4, .int (gI a4)), (5, .int (gI a5)), (6, .int (gI v6))]) [1, 2, 3, 4, 5, 6, 0] rfl ?_
              exact t222  v6 M h
            · have h := h.2 b10
              refine q_iload C 0 rfl dX7_backWhite_212 ?_
              refine q_iload_n C 4 rfl rfl dX7_backWhite_214 ?_
              obtain ⟨r11, h⟩ := h
              refine q_icmp_eq (tgt := 222) C r7 r11 (by decide) dX7_backWhite_215 (fun b12 => ?_) (fun b12 => ?_)
              · have h := h.1 b12
                refine q_lv (lv' := [(0, .ref (gad a0)), (1, .int (gI a1)), (2, .int (gI a2)), (3, .int (gI a3)), (4, .int (gI a4)), (5, .int (gI a5)), (6, .int (gI v6))]) [1, 2, 3, 4, 5, 6, 0] rfl ?_
                exact t222  v6 M h
              · have h := h.2 b12
                refine q_iconst C dX7_backWhite_218 ?_
                refine q_goto (tgt := 223) C (by decide) dX7_backWhite_219 ?_
                refine q_lv (lv' := [(0, .ref (gad a0)), (1, .int (gI a1)), (2, .int (gI a2)), (3, .int (gI a3)), (4, .int (gI a4)), (5, .int (gI a5)), (6, .int (gI v6))]) [1, 2, 3, 4, 5, 6, 0] rfl ?_
                exact t223  v6 1 M h
      · have h := h.2 b2
        refine q_iconst C dX7_backWhite_9 ?_
        refine q_istore (lv' := [(7, .int (gI (-1))), (0, .ref (gad a0)), (1, .int (gI a1)), (2, .int (gI a2)), (3, .int (gI a3)), (4, .int (gI a4)), (5, .int (gI a5)), (6, .int (gI x6))]) C (by decide) rfl dX7_backWhite_10 ?_
        refine q_lv (lv' := [(0, .ref (gad a0)), (1, .int (gI a1)), (2, .int (gI a2)), (3, .int (gI a3)), (4, .int (gI a4)), (5, .int (gI a5)), (6, .int (gI x6)), (7, .int (gI (-1)))]) [1, 2, 3, 4, 5, 6, 7, 0] rfl ?_
        obtain ⟨j12, h⟩ := h
        exact t12 (wX7_backWhite_3 kd ln post a0 a1 a2 a3 a4 a5 n) hk3_ j12 x6 (-1) M h
  unfold wX7_backWhite at h
  refine q_iconst C dX7_backWhite_0 ?_
  refine q_istore (lv' := [(6, .int (gI (-1))), (0, .ref (gad a0)), (1, .int (gI a1)), (2, .int (gI a2)), (3, .int (gI a3)), (4, .int (gI a4)), (5, .int (gI a5))]) C (by decide) rfl dX7_backWhite_1 ?_
  refine q_lv (lv' := [(0, .ref (gad a0)), (1, .int (gI a1)), (2, .int (gI a2)), (3, .int (gI a3)), (4, .int (gI a4)), (5, .int (gI a5)), (6, .int (gI (-1)))]) [1, 2, 3, 4, 5, 6, 0] rfl ?_
  obtain ⟨j3, h⟩ := h
  exact t3  j3 (-1) M h
set_option maxHeartbeats 4000000 in
set_option maxRecDepth 100000 in
theorem mX7_isMade (l : Launch) (D : va_G) (cy : Nat → ClassId) (kd : gKd) (ln : gLn) (rh : gRh) (post : Int → gM → Prop) (a0 : Int) (a1 : Int) (M : gM) (hk0 : kd a0 = 7) (h : wX7_isMade kd ln post a0 a1 M) : gMI l D cy yX7_isMade cX7_isMade 2 .boolean 1 22 [.ref (gad a0), .int (gI a1)] kd ln rh M post := by
  refine gMI_ofZ (own := RX7) (by decide) rfl (Nat.le_of_ble_eq_true rfl) ?_
  intro p e s m args below meth c A H0 Q C hret
  unfold wX7_isMade at h
  refine q_iload_n C 1 rfl rfl dX7_isMade_0 ?_
  refine q_iconst C dX7_isMade_1 ?_
  refine q_iconst C dX7_isMade_2 ?_
  refine q_callSI (As := [.int (gI a1), .int (gI 0), .int (gI 2)]) (st := []) C vX7_84 kX7_in ⟨Nat.le_of_ble_eq_true rfl, Nat.le_of_ble_eq_true rfl⟩ ⟨Nat.le_of_ble_eq_true rfl, Nat.le_of_ble_eq_true rfl⟩ rfl rfl (Nat.le_of_ble_eq_true rfl) (mX7_in l D cy kd ln rh _ a1 0 2 M  h) dX7_isMade_3 (fun c2 M1 g3 h => ?_)
  have h := h g3
  refine q_if_eq (tgt := 22) C g3 (by decide) dX7_isMade_6 (fun b4 => ?_) (fun b4 => ?_)
  · have h := h.1 b4
    refine q_iconst C dX7_isMade_22 ?_
    exact hret 0 M1 _ _ dX7_isMade_23 (Or.inl rfl) h
  · have h := h.2 b4
    refine q_aload_n C 0 rfl rfl dX7_isMade_9 ?_
    obtain ⟨r5, h⟩ := h
    refine q_get (v := .ref (rh a0 3)) C fX7_16 hk0 (if_neg (Int.not_lt.mpr r5)) dX7_isMade_10 (fun g6 => ?_)
    refine q_iload_n C 1 rfl rfl dX7_isMade_13 ?_
    obtain ⟨r7, h⟩ := h
    refine q_zald C hk0 rfl (fun _ q => q) r7 dX7_isMade_14 (fun g8 => ?_)
    have h := h g8
    refine q_if_eq (tgt := 22) C g8 (by decide) dX7_isMade_15 (fun b9 => ?_) (fun b9 => ?_)
    · have h := h.1 b9
      refine q_iconst C dX7_isMade_22 ?_
      exact hret 0 M1 _ _ dX7_isMade_23 (Or.inl rfl) h
    · have h := h.2 b9
      refine q_iconst C dX7_isMade_18 ?_
      refine q_goto (tgt := 23) C (by decide) dX7_isMade_19 ?_
      exact hret 1 M1 _ _ dX7_isMade_23 (Or.inr rfl) h
set_option maxHeartbeats 4000000 in
set_option maxRecDepth 100000 in
theorem mX7_may (l : Launch) (D : va_G) (cy : Nat → ClassId) (kd : gKd) (ln : gLn) (rh : gRh) (post : Int → gM → Prop) (a0 : Int) (a1 : Int) (M : gM) (hk0 : kd a0 = 7) (h : wX7_may kd ln post a0 a1 M) : gMI l D cy yX7_may cX7_may 2 .boolean 0 0 [.ref (gad a0), .int (gI a1)] kd ln rh M post := by
  refine gMI_ofZ (own := RX7) (by decide) rfl (Nat.le_of_ble_eq_true rfl) ?_
  intro p e s m args below meth c A H0 Q C hret
  have t10 : ∀ (y0 : Int) (M : gM), wX7_may_10 kd ln post a0 a1 y0 M → gW p l e (gRm 0 0) s m args below meth c D cy A H0 Q 2 kd ln rh 0 0 M 10 [(1, .int (gI a1))] [.int (gI y0), .ref (gad a0)] := by
    intro  y0 M h
    unfold wX7_may_10 at h
    obtain ⟨r3, h⟩ := h
    refine q_put (x := y0) (ty := .int) C fX7_81 hk0 (fun _ _ _ q => by cases q; rfl) (congrArg (fun z => Value.int (gI z)) gu_s) rfl rfl r3 (fun j q => absurd (show (0 : Nat) = j + 3 from q) (by omega)) dX7_may_10 ?_
    refine q_iload_n C 0 rfl rfl dX7_may_13 ?_
    obtain ⟨r4, h⟩ := h
    exact hret a1 (gu M a0 0 (-1) y0) _ _ dX7_may_14 r4 h
  unfold wX7_may at h
  refine q_aload_n C 0 rfl rfl dX7_may_0 ?_
  refine q_iload_n C 1 rfl rfl dX7_may_1 ?_
  obtain ⟨r1, h⟩ := h
  refine q_if_eq (tgt := 9) C r1 (by decide) dX7_may_2 (fun b2 => ?_) (fun b2 => ?_)
  · have h := h.1 b2
    refine q_iconst C dX7_may_9 ?_
    refine q_lv (lv' := [(1, .int (gI a1))]) [1] rfl ?_
    exact t10  1 M h
  · have h := h.2 b2
    refine q_iconst C dX7_may_5 ?_
    refine q_goto (tgt := 10) C (by decide) dX7_may_6 ?_
    refine q_lv (lv' := [(1, .int (gI a1))]) [1] rfl ?_
    exact t10  0 M h
set_option maxHeartbeats 4000000 in
set_option maxRecDepth 100000 in
theorem mX7_mayAsk (l : Launch) (D : va_G) (cy : Nat → ClassId) (kd : gKd) (ln : gLn) (rh : gRh) (post : Int → gM → Prop) (a0 : Int) (a1 : Int) (a2 : Int) (a3 : Int) (a4 : Int) (a5 : Int) (M : gM) (hk0 : kd a0 = 7) (h : wX7_mayAsk kd ln post a0 a1 a2 a3 a4 a5 M) : gMI l D cy yX7_mayAsk cX7_mayAsk 6 .boolean 4 100 [.ref (gad a0), .int (gI a1), .int (gI a2), .int (gI a3), .int (gI a4), .int (gI a5)] kd ln rh M post := by
  refine gMI_ofZ (own := RX7) (by decide) rfl (Nat.le_of_ble_eq_true rfl) ?_
  intro p e s m args below meth c A H0 Q C hret
  have t41 : ∀ (M : gM), wX7_mayAsk_41 kd ln post a0 a1 a2 a3 a4 a5  M → gW p l e (gRm 4 100) s m args below meth c D cy A H0 Q 6 kd ln rh 0 0 M 41 [] [.ref (gad a0)] := by
    intro   M h
    unfold wX7_mayAsk_41 at h
    refine q_iconst C dX7_mayAsk_41 ?_
    refine q_callVI (As := [.int (gI 0)]) (st := []) C vX7_186 kX7_may ⟨Nat.le_of_ble_eq_true rfl, Nat.le_of_ble_eq_true rfl⟩ ⟨Nat.le_of_ble_eq_true rfl, Nat.le_of_ble_eq_true rfl⟩ rfl hk0 ⟨_, _, rfl⟩ (by decide) rfl (Nat.le_of_ble_eq_true rfl) (mX7_may l D cy kd ln rh _ a0 0 M hk0 h) dX7_mayAsk_42 (fun c18 M17 g19 h => ?_)
    have h := h g19
    obtain ⟨r20, h⟩ := h
    exact hret c18 M17 _ _ dX7_mayAsk_45 r20 h
  unfold wX7_mayAsk at h
  refine q_aload_n C 0 rfl rfl dX7_mayAsk_0 ?_
  refine q_aload_n C 0 rfl rfl dX7_mayAsk_1 ?_
  refine q_iload_n C 1 rfl rfl dX7_mayAsk_2 ?_
  refine q_callVI (As := [.int (gI a1)]) (st := [.ref (gad a0)]) C vX7_179 kX7_isMade ⟨Nat.le_of_ble_eq_true rfl, Nat.le_of_ble_eq_true rfl⟩ ⟨Nat.le_of_ble_eq_true rfl, Nat.le_of_ble_eq_true rfl⟩ rfl hk0 ⟨_, _, rfl⟩ (by decide) rfl (Nat.le_of_ble_eq_true rfl) (mX7_isMade l D cy kd ln rh _ a0 a1 M hk0 h) dX7_mayAsk_3 (fun c2 M1 g3 h => ?_)
  have h := h g3
  refine q_if_eq (tgt := 41) C g3 (by decide) dX7_mayAsk_6 (fun b4 => ?_) (fun b4 => ?_)
  · have h := h.1 b4
    refine q_lv (lv' := []) [] rfl ?_
    exact t41  M1 h
  · have h := h.2 b4
    refine q_aload_n C 0 rfl rfl dX7_mayAsk_9 ?_
    refine q_iload_n C 1 rfl rfl dX7_mayAsk_10 ?_
    refine q_iload_n C 2 rfl rfl dX7_mayAsk_11 ?_
    refine q_iload_n C 3 rfl rfl dX7_mayAsk_12 ?_
    refine q_iload C 4 rfl dX7_mayAsk_13 ?_
    refine q_iload C 5 rfl dX7_mayAsk_15 ?_
    refine q_callVI (As := [.int (gI a1), .int (gI a2), .int (gI a3), .int (gI a4), .int (gI a5)]) (st := [.ref (gad a0)]) C vX7_183 kX7_areNumbers ⟨Nat.le_of_ble_eq_true rfl, Nat.le_of_ble_eq_true rfl⟩ ⟨Nat.le_of_ble_eq_true rfl, Nat.le_of_ble_eq_true rfl⟩ rfl hk0 ⟨_, _, rfl⟩ (by decide) rfl (Nat.le_of_ble_eq_true rfl) (mX7_areNumbers l D cy kd ln rh _ a0 a1 a2 a3 a4 a5 M1 hk0 h) dX7_mayAsk_17 (fun c6 M5 g7 h => ?_)
    have h := h g7
    refine q_if_eq (tgt := 41) C g7 (by decide) dX7_mayAsk_20 (fun b8 => ?_) (fun b8 => ?_)
    · have h := h.1 b8
      refine q_lv (lv' := []) [] rfl ?_
      exact t41  M5 h
    · have h := h.2 b8
      refine q_aload_n C 0 rfl rfl dX7_mayAsk_23 ?_
      refine q_iload_n C 1 rfl rfl dX7_mayAsk_24 ?_
      refine q_iload_n C 2 rfl rfl dX7_mayAsk_25 ?_
      refine q_iload_n C 3 rfl rfl dX7_mayAsk_26 ?_
      refine q_iload C 4 rfl dX7_mayAsk_27 ?_
      refine q_iload C 5 rfl dX7_mayAsk_29 ?_
      refine q_callVI (As := [.int (gI a1), .int (gI a2), .int (gI a3), .int (gI a4), .int (gI a5)]) (st := [.ref (gad a0)]) C vX7_107 kX7_legal ⟨Nat.le_of_ble_eq_true rfl, Nat.le_of_ble_eq_true rfl⟩ ⟨Nat.le_of_ble_eq_true rfl, Nat.le_of_ble_eq_true rfl⟩ rfl hk0 ⟨_, _, rfl⟩ (by decide) rfl (Nat.le_of_ble_eq_true rfl) (mX7_legal l D cy kd ln rh _ a0 a1 a2 a3 a4 a5 M5 hk0 h) dX7_mayAsk_31 (fun c10 M9 g11 h => ?_)
      have h := h g11
      refine q_if_eq (tgt := 41) C g11 (by decide) dX7_mayAsk_34 (fun b12 => ?_) (fun b12 => ?_)
      · have h := h.1 b12
        refine q_lv (lv' := []) [] rfl ?_
        exact t41  M9 h
      · have h := h.2 b12
        refine q_iconst C dX7_mayAsk_37 ?_
        refine q_goto (tgt := 42) C (by decide) dX7_mayAsk_38 ?_
        refine q_callVI (As := [.int (gI 1)]) (st := []) C vX7_186 kX7_may ⟨Nat.le_of_ble_eq_true rfl, Nat.le_of_ble_eq_true rfl⟩ ⟨Nat.le_of_ble_eq_true rfl, Nat.le_of_ble_eq_true rfl⟩ rfl hk0 ⟨_, _, rfl⟩ (by decide) rfl (Nat.le_of_ble_eq_true rfl) (mX7_may l D cy kd ln rh _ a0 1 M9 hk0 h) dX7_mayAsk_42 (fun c14 M13 g15 h => ?_)
        have h := h g15
        obtain ⟨r16, h⟩ := h
        exact hret c14 M13 _ _ dX7_mayAsk_45 r16 h
set_option maxHeartbeats 4000000 in
set_option maxRecDepth 100000 in
theorem mX7_isBest (l : Launch) (D : va_G) (cy : Nat → ClassId) (kd : gKd) (ln : gLn) (rh : gRh) (post : Int → gM → Prop) (a0 : Int) (a1 : Int) (a2 : Int) (a3 : Int) (M : gM) (hk0 : kd a0 = 7) (h : wX7_isBest kd ln post a0 a1 a2 a3 M) : gMI l D cy yX7_isBest cX7_isBest 5 .boolean 3 71 [.ref (gad a0), .int (gI a1), .int (gI a2), .int (gI a3)] kd ln rh M post := by
  refine gMI_ofZ (own := RX7) (by decide) rfl (Nat.le_of_ble_eq_true rfl) ?_
  intro p e s m args below meth c A H0 Q C hret
  unfold wX7_isBest at h
  refine q_aload_n C 0 rfl rfl dX7_isBest_0 ?_
  refine q_iload_n C 1 rfl rfl dX7_isBest_1 ?_
  refine q_iload_n C 2 rfl rfl dX7_isBest_2 ?_
  refine q_callVI (As := [.int (gI a1), .int (gI a2)]) (st := []) C vX7_166 kX7_after ⟨Nat.le_of_ble_eq_true rfl, Nat.le_of_ble_eq_true rfl⟩ ⟨Nat.le_of_ble_eq_true rfl, Nat.le_of_ble_eq_true rfl⟩ rfl hk0 ⟨_, _, rfl⟩ (by decide) rfl (Nat.le_of_ble_eq_true rfl) (mX7_after l D cy kd ln rh _ a0 a1 a2 M hk0 h) dX7_isBest_3 (fun c2 M1 g3 h => ?_)
  have h := h g3
  refine q_istore (lv' := [(4, .int (gI c2)), (0, .ref (gad a0)), (1, .int (gI a1)), (2, .int (gI a2)), (3, .int (gI a3))]) C (by decide) rfl dX7_isBest_6 ?_
  refine q_iload_n C 4 rfl rfl dX7_isBest_8 ?_
  refine q_iconst C dX7_isBest_9 ?_
  obtain ⟨r4, h⟩ := h
  refine q_icmp_ne (tgt := 25) C r4 (show rng (-1) by decide) (by decide) dX7_isBest_10 (fun b5 => ?_) (fun b5 => ?_)
  · have h := h.1 b5
    refine q_iload C 0 rfl dX7_isBest_25 ?_
    refine q_iload_n C 4 rfl rfl dX7_isBest_27 ?_
    refine q_iconst C dX7_isBest_28 ?_
    refine q_isub C dX7_isBest_29 ?_
    obtain ⟨r6, h⟩ := h
    refine q_icmp_ne (tgt := 37) C g3 r6 (by decide) dX7_isBest_30 (fun b7 => ?_) (fun b7 => ?_)
    · have h := h.1 b7
      refine q_iconst C dX7_isBest_37 ?_
      exact hret 0 M1 _ _ dX7_isBest_38 (Or.inl rfl) h
    · have h := h.2 b7
      refine q_iconst C dX7_isBest_33 ?_
      refine q_goto (tgt := 38) C (by decide) dX7_isBest_34 ?_
      exact hret 1 M1 _ _ dX7_isBest_38 (Or.inr rfl) h
  · have h := h.2 b5
    refine q_iload C 0 rfl dX7_isBest_13 ?_
    refine q_iconst C dX7_isBest_15 ?_
    refine q_icmp_ne (tgt := 23) C g3 (show rng (-1) by decide) (by decide) dX7_isBest_16 (fun b8 => ?_) (fun b8 => ?_)
    · have h := h.1 b8
      refine q_iconst C dX7_isBest_23 ?_
      exact hret 0 M1 _ _ dX7_isBest_24 (Or.inl rfl) h
    · have h := h.2 b8
      refine q_iconst C dX7_isBest_19 ?_
      refine q_goto (tgt := 24) C (by decide) dX7_isBest_20 ?_
      exact hret 1 M1 _ _ dX7_isBest_24 (Or.inr rfl) h
set_option maxHeartbeats 4000000 in
set_option maxRecDepth 100000 in
theorem mX7_best (l : Launch) (D : va_G) (cy : Nat → ClassId) (kd : gKd) (ln : gLn) (rh : gRh) (post : Int → gM → Prop) (a0 : Int) (a1 : Int) (a2 : Int) (a3 : Int) (a4 : Int) (a5 : Int) (M : gM) (hk0 : kd a0 = 7) (h : wX7_best kd ln post a0 a1 a2 a3 a4 a5 M) : gMI l D cy yX7_best cX7_best 8 .int 5 129 [.ref (gad a0), .int (gI a1), .int (gI a2), .int (gI a3), .int (gI a4), .int (gI a5)] kd ln rh M post := by
  refine gMI_of (own := RX7) (by decide) rfl (Nat.le_of_ble_eq_true rfl) ?_
  intro p e s m args below meth c A H0 Q C hret
  have t145 : ∀ (k48 : Int → Int → gM → Prop), (∀ (x6 : Int), ∀ (x7 : Int), ∀ (M : gM), k48 x6 x7 M → gW p l e (gRm 5 129) s m args below meth c D cy A H0 Q 8 kd ln rh 0 0 M 48 [(0, .ref (gad a0)), (5, .int (gI a5)), (6, .int (gI x6)), (7, .int (gI x7))] []) → ∀ (x6 : Int) (x7 : Int) (M : gM), wX7_best_145 kd ln post a0 a1 a2 a3 a4 a5 k48 x6 x7 M → gW p l e (gRm 5 129) s m args below meth c D cy A H0 Q 8 kd ln rh 0 0 M 145 [(0, .ref (gad a0)), (5, .int (gI a5)), (6, .int (gI x6)), (7, .int (gI x7))] [] := by
    intro k48 hk48_ x6 x7 M h
    unfold wX7_best_145 at h
    refine q_iinc (lv' := [(7, .int (gI (x7 + 1))), (0, .ref (gad a0)), (5, .int (gI a5)), (6, .int (gI x6))]) C 3 rfl (by decide) rfl dX7_best_145 ?_
    refine q_goto (tgt := 48) C (by decide) dX7_best_148 ?_
    refine q_lv (lv' := [(0, .ref (gad a0)), (5, .int (gI a5)), (6, .int (gI x6)), (7, .int (gI (x7 + 1)))]) [1, 2, 3, 0] rfl ?_
    exact hk48_ x6 (x7 + 1) M h
  have t48 : ∀ (n : Nat) (x6 : Int) (x7 : Int) (M : gM), wX7_best_48 kd ln post a0 a1 a2 a3 a4 a5 n x6 x7 M → gW p l e (gRm 5 129) s m args below meth c D cy A H0 Q 8 kd ln rh 0 0 M 48 [(0, .ref (gad a0)), (5, .int (gI a5)), (6, .int (gI x6)), (7, .int (gI x7))] [] := by
    intro n
    induction n with
    | zero => intro x6 x7 M h; exact absurd h (by simp [wX7_best_48])
    | succ n ih =>
      intro x6 x7 M h
      have hk48_ := ih
      rw [wX7_best_48] at h
      refine q_iload C 3 rfl dX7_best_48 ?_
      refine q_aload_n C 0 rfl rfl dX7_best_50 ?_
      refine q_get (v := .int (gI (M a0 12 (-1)))) C fX7_104 hk0 rfl dX7_best_51 (fun g11 => ?_)
      have h := h g11
      obtain ⟨r12, h⟩ := h
      refine q_icmp_ge (tgt := 151) C r12 g11 (by decide) dX7_best_54 (fun b13 => ?_) (fun b13 => ?_)
      · have h := h.1 b13
        refine q_aload_n C 0 rfl rfl dX7_best_151 ?_
        refine q_get (v := .int (gI (M a0 21 (-1)))) C fX7_193 hk0 rfl dX7_best_152 (fun g14 => ?_)
        have h := h g14
        exact hret (M a0 21 (-1)) M _ _ dX7_best_155 g14 h
      · have h := h.2 b13
        refine q_aload_n C 0 rfl rfl dX7_best_57 ?_
        refine q_iload C 3 rfl dX7_best_58 ?_
        refine q_iload C 1 rfl dX7_best_60 ?_
        refine q_iload C 2 rfl dX7_best_62 ?_
        refine q_callVI (As := [.int (gI x7), .int (gI a5), .int (gI x6)]) (st := []) C vX7_196 kX7_isBest ⟨Nat.le_of_ble_eq_true rfl, Nat.le_of_ble_eq_true rfl⟩ ⟨Nat.le_of_ble_eq_true rfl, Nat.le_of_ble_eq_true rfl⟩ rfl hk0 ⟨_, _, rfl⟩ (by decide) rfl (Nat.le_of_ble_eq_true rfl) (mX7_isBest l D cy kd ln rh _ a0 x7 a5 x6 M hk0 h) dX7_best_64 (fun c16 M15 g17 h => ?_)
        have h := h g17
        refine q_if_eq (tgt := 145) C g17 (by decide) dX7_best_67 (fun b18 => ?_) (fun b18 => ?_)
        · have h := h.1 b18
          exact t145 (wX7_best_48 kd ln post a0 a1 a2 a3 a4 a5 n) hk48_ x6 x7 M15 h
        · have h := h.2 b18
          refine q_aload_n C 0 rfl rfl dX7_best_70 ?_
          obtain ⟨r19, h⟩ := h
          refine q_get (v := .ref (rh a0 22)) C fX7_63 hk0 (if_neg (Int.not_lt.mpr r19)) dX7_best_71 (fun g20 => ?_)
          refine q_aload_n C 0 rfl rfl dX7_best_74 ?_
          refine q_get (v := .int (gI (M15 a0 21 (-1)))) C fX7_193 hk0 rfl dX7_best_75 (fun g21 => ?_)
          have h := h g21
          refine q_aload_n C 0 rfl rfl dX7_best_78 ?_
          obtain ⟨r22, h⟩ := h
          refine q_get (v := .ref (rh a0 13)) C fX7_42 hk0 (if_neg (Int.not_lt.mpr r22)) dX7_best_79 (fun g23 => ?_)
          refine q_iload C 3 rfl dX7_best_82 ?_
          obtain ⟨r24, h⟩ := h
          refine q_iald C hk0 rfl (fun _ q => q) r24 dX7_best_84 (fun g25 => ?_)
          have h := h g25
          obtain ⟨r26, h⟩ := h
          refine q_iast C hk0 rfl g25 r26 dX7_best_85 ?_
          refine q_aload_n C 0 rfl rfl dX7_best_86 ?_
          obtain ⟨r27, h⟩ := h
          refine q_get (v := .ref (rh a0 23)) C fX7_66 hk0 (if_neg (Int.not_lt.mpr r27)) dX7_best_87 (fun g28 => ?_)
          refine q_aload_n C 0 rfl rfl dX7_best_90 ?_
          refine q_get (v := .int (gI ((gu M15 a0 22 (M15 a0 21 (-1)) (M15 a0 13 x7)) a0 21 (-1)))) C fX7_193 hk0 rfl dX7_best_91 (fun g29 => ?_)
          have h := h g29
          refine q_aload_n C 0 rfl rfl dX7_best_94 ?_
          obtain ⟨r30, h⟩ := h
          refine q_get (v := .ref (rh a0 14)) C fX7_45 hk0 (if_neg (Int.not_lt.mpr r30)) dX7_best_95 (fun g31 => ?_)
          refine q_iload C 3 rfl dX7_best_98 ?_
          obtain ⟨r32, h⟩ := h
          refine q_iald C hk0 rfl (fun _ q => q) r32 dX7_best_100 (fun g33 => ?_)
          have h := h g33
          obtain ⟨r34, h⟩ := h
          refine q_iast C hk0 rfl g33 r34 dX7_best_101 ?_
          refine q_aload_n C 0 rfl rfl dX7_best_102 ?_
          obtain ⟨r35, h⟩ := h
          refine q_get (v := .ref (rh a0 24)) C fX7_69 hk0 (if_neg (Int.not_lt.mpr r35)) dX7_best_103 (fun g36 => ?_)
          refine q_aload_n C 0 rfl rfl dX7_best_106 ?_
          refine q_get (v := .int (gI ((gu (gu M15 a0 22 (M15 a0 21 (-1)) (M15 a0 13 x7)) a0 23 ((gu M15 a0 22 (M15 a0 21 (-1)) (M15 a0 13 x7)) a0 21 (-1)) ((gu M15 a0 22 (M15 a0 21 (-1)) (M15 a0 13 x7)) a0 14 x7)) a0 21 (-1)))) C fX7_193 hk0 rfl dX7_best_107 (fun g37 => ?_)
          have h := h g37
          refine q_aload_n C 0 rfl rfl dX7_best_110 ?_
          obtain ⟨r38, h⟩ := h
          refine q_get (v := .ref (rh a0 15)) C fX7_48 hk0 (if_neg (Int.not_lt.mpr r38)) dX7_best_111 (fun g39 => ?_)
          refine q_iload C 3 rfl dX7_best_114 ?_
          obtain ⟨r40, h⟩ := h
          refine q_iald C hk0 rfl (fun _ q => q) r40 dX7_best_116 (fun g41 => ?_)
          have h := h g41
          obtain ⟨r42, h⟩ := h
          refine q_iast C hk0 rfl g41 r42 dX7_best_117 ?_
          refine q_aload_n C 0 rfl rfl dX7_best_118 ?_
          obtain ⟨r43, h⟩ := h
          refine q_get (v := .ref (rh a0 25)) C fX7_72 hk0 (if_neg (Int.not_lt.mpr r43)) dX7_best_119 (fun g44 => ?_)
          refine q_aload_n C 0 rfl rfl dX7_best_122 ?_
          refine q_get (v := .int (gI ((gu (gu (gu M15 a0 22 (M15 a0 21 (-1)) (M15 a0 13 x7)) a0 23 ((gu M15 a0 22 (M15 a0 21 (-1)) (M15 a0 13 x7)) a0 21 (-1)) ((gu M15 a0 22 (M15 a0 21 (-1)) (M15 a0 13 x7)) a0 14 x7)) a0 24 ((gu (gu M15 a0 22 (M15 a0 21 (-1)) (M15 a0 13 x7)) a0 23 ((gu M15 a0 22 (M15 a0 21 (-1)) (M15 a0 13 x7)) a0 21 (-1)) ((gu M15 a0 22 (M15 a0 21 (-1)) (M15 a0 13 x7)) a0 14 x7)) a0 21 (-1)) ((gu (gu M15 a0 22 (M15 a0 21 (-1)) (M15 a0 13 x7)) a0 23 ((gu M15 a0 22 (M15 a0 21 (-1)) (M15 a0 13 x7)) a0 21 (-1)) ((gu M15 a0 22 (M15 a0 21 (-1)) (M15 a0 13 x7)) a0 14 x7)) a0 15 x7)) a0 21 (-1)))) C fX7_193 hk0 rfl dX7_best_123 (fun g45 => ?_)
          have h := h g45
          refine q_aload_n C 0 rfl rfl dX7_best_126 ?_
          refine q_iload C 3 rfl dX7_best_127 ?_
          refine q_iload C 1 rfl dX7_best_129 ?_
          refine q_callVI (As := [.int (gI x7), .int (gI a5)]) (st := [.int (gI ((gu (gu (gu M15 a0 22 (M15 a0 21 (-1)) (M15 a0 13 x7)) a0 23 ((gu M15 a0 22 (M15 a0 21 (-1)) (M15 a0 13 x7)) a0 21 (-1)) ((gu M15 a0 22 (M15 a0 21 (-1)) (M15 a0 13 x7)) a0 14 x7)) a0 24 ((gu (gu M15 a0 22 (M15 a0 21 (-1)) (M15 a0 13 x7)) a0 23 ((gu M15 a0 22 (M15 a0 21 (-1)) (M15 a0 13 x7)) a0 21 (-1)) ((gu M15 a0 22 (M15 a0 21 (-1)) (M15 a0 13 x7)) a0 14 x7)) a0 21 (-1)) ((gu (gu M15 a0 22 (M15 a0 21 (-1)) (M15 a0 13 x7)) a0 23 ((gu M15 a0 22 (M15 a0 21 (-1)) (M15 a0 13 x7)) a0 21 (-1)) ((gu M15 a0 22 (M15 a0 21 (-1)) (M15 a0 13 x7)) a0 14 x7)) a0 15 x7)) a0 21 (-1))), .ref (rh a0 25)]) C vX7_166 kX7_after ⟨Nat.le_of_ble_eq_true rfl, Nat.le_of_ble_eq_true rfl⟩ ⟨Nat.le_of_ble_eq_true rfl, Nat.le_of_ble_eq_true rfl⟩ rfl hk0 ⟨_, _, rfl⟩ (by decide) rfl (Nat.le_of_ble_eq_true rfl) (mX7_after l D cy kd ln rh _ a0 x7 a5 (gu (gu (gu M15 a0 22 (M15 a0 21 (-1)) (M15 a0 13 x7)) a0 23 ((gu M15 a0 22 (M15 a0 21 (-1)) (M15 a0 13 x7)) a0 21 (-1)) ((gu M15 a0 22 (M15 a0 21 (-1)) (M15 a0 13 x7)) a0 14 x7)) a0 24 ((gu (gu M15 a0 22 (M15 a0 21 (-1)) (M15 a0 13 x7)) a0 23 ((gu M15 a0 22 (M15 a0 21 (-1)) (M15 a0 13 x7)) a0 21 (-1)) ((gu M15 a0 22 (M15 a0 21 (-1)) (M15 a0 13 x7)) a0 14 x7)) a0 21 (-1)) ((gu (gu M15 a0 22 (M15 a0 21 (-1)) (M15 a0 13 x7)) a0 23 ((gu M15 a0 22 (M15 a0 21 (-1)) (M15 a0 13 x7)) a0 21 (-1)) ((gu M15 a0 22 (M15 a0 21 (-1)) (M15 a0 13 x7)) a0 14 x7)) a0 15 x7)) hk0 h) dX7_best_131 (fun c47 M46 g48 h => ?_)
          have h := h g48
          obtain ⟨r49, h⟩ := h
          refine q_iast C hk0 rfl g48 r49 dX7_best_134 ?_
          refine q_aload_n C 0 rfl rfl dX7_best_135 ?_
          refine q_dup C rfl dX7_best_136 ?_
          refine q_get (v := .int (gI ((gu M46 a0 25 ((gu (gu (gu M15 a0 22 (M15 a0 21 (-1)) (M15 a0 13 x7)) a0 23 ((gu M15 a0 22 (M15 a0 21 (-1)) (M15 a0 13 x7)) a0 21 (-1)) ((gu M15 a0 22 (M15 a0 21 (-1)) (M15 a0 13 x7)) a0 14 x7)) a0 24 ((gu (gu M15 a0 22 (M15 a0 21 (-1)) (M15 a0 13 x7)) a0 23 ((gu M15 a0 22 (M15 a0 21 (-1)) (M15 a0 13 x7)) a0 21 (-1)) ((gu M15 a0 22 (M15 a0 21 (-1)) (M15 a0 13 x7)) a0 14 x7)) a0 21 (-1)) ((gu (gu M15 a0 22 (M15 a0 21 (-1)) (M15 a0 13 x7)) a0 23 ((gu M15 a0 22 (M15 a0 21 (-1)) (M15 a0 13 x7)) a0 21 (-1)) ((gu M15 a0 22 (M15 a0 21 (-1)) (M15 a0 13 x7)) a0 14 x7)) a0 15 x7)) a0 21 (-1)) c47) a0 21 (-1)))) C fX7_193 hk0 rfl dX7_best_137 (fun g50 => ?_)
          have h := h g50
          refine q_iconst C dX7_best_140 ?_
          refine q_iadd C dX7_best_141 ?_
          obtain ⟨r51, h⟩ := h
          refine q_put (x := (((gu M46 a0 25 ((gu (gu (gu M15 a0 22 (M15 a0 21 (-1)) (M15 a0 13 x7)) a0 23 ((gu M15 a0 22 (M15 a0 21 (-1)) (M15 a0 13 x7)) a0 21 (-1)) ((gu M15 a0 22 (M15 a0 21 (-1)) (M15 a0 13 x7)) a0 14 x7)) a0 24 ((gu (gu M15 a0 22 (M15 a0 21 (-1)) (M15 a0 13 x7)) a0 23 ((gu M15 a0 22 (M15 a0 21 (-1)) (M15 a0 13 x7)) a0 21 (-1)) ((gu M15 a0 22 (M15 a0 21 (-1)) (M15 a0 13 x7)) a0 14 x7)) a0 21 (-1)) ((gu (gu M15 a0 22 (M15 a0 21 (-1)) (M15 a0 13 x7)) a0 23 ((gu M15 a0 22 (M15 a0 21 (-1)) (M15 a0 13 x7)) a0 21 (-1)) ((gu M15 a0 22 (M15 a0 21 (-1)) (M15 a0 13 x7)) a0 14 x7)) a0 15 x7)) a0 21 (-1)) c47) a0 21 (-1)) + 1)) (ty := .int) C fX7_193 hk0 (fun _ _ _ q => by cases q; rfl) (congrArg (fun z => Value.int (gI z)) gu_s) rfl rfl r51 (fun j q => absurd (show (0 : Nat) = j + 3 from q) (by omega)) dX7_best_142 ?_
          exact t145 (wX7_best_48 kd ln post a0 a1 a2 a3 a4 a5 n) hk48_ x6 x7 (gu (gu M46 a0 25 ((gu (gu (gu M15 a0 22 (M15 a0 21 (-1)) (M15 a0 13 x7)) a0 23 ((gu M15 a0 22 (M15 a0 21 (-1)) (M15 a0 13 x7)) a0 21 (-1)) ((gu M15 a0 22 (M15 a0 21 (-1)) (M15 a0 13 x7)) a0 14 x7)) a0 24 ((gu (gu M15 a0 22 (M15 a0 21 (-1)) (M15 a0 13 x7)) a0 23 ((gu M15 a0 22 (M15 a0 21 (-1)) (M15 a0 13 x7)) a0 21 (-1)) ((gu M15 a0 22 (M15 a0 21 (-1)) (M15 a0 13 x7)) a0 14 x7)) a0 21 (-1)) ((gu (gu M15 a0 22 (M15 a0 21 (-1)) (M15 a0 13 x7)) a0 23 ((gu M15 a0 22 (M15 a0 21 (-1)) (M15 a0 13 x7)) a0 21 (-1)) ((gu M15 a0 22 (M15 a0 21 (-1)) (M15 a0 13 x7)) a0 14 x7)) a0 15 x7)) a0 21 (-1)) c47) a0 21 (-1) (((gu M46 a0 25 ((gu (gu (gu M15 a0 22 (M15 a0 21 (-1)) (M15 a0 13 x7)) a0 23 ((gu M15 a0 22 (M15 a0 21 (-1)) (M15 a0 13 x7)) a0 21 (-1)) ((gu M15 a0 22 (M15 a0 21 (-1)) (M15 a0 13 x7)) a0 14 x7)) a0 24 ((gu (gu M15 a0 22 (M15 a0 21 (-1)) (M15 a0 13 x7)) a0 23 ((gu M15 a0 22 (M15 a0 21 (-1)) (M15 a0 13 x7)) a0 21 (-1)) ((gu M15 a0 22 (M15 a0 21 (-1)) (M15 a0 13 x7)) a0 14 x7)) a0 21 (-1)) ((gu (gu M15 a0 22 (M15 a0 21 (-1)) (M15 a0 13 x7)) a0 23 ((gu M15 a0 22 (M15 a0 21 (-1)) (M15 a0 13 x7)) a0 21 (-1)) ((gu M15 a0 22 (M15 a0 21 (-1)) (M15 a0 13 x7)) a0 14 x7)) a0 15 x7)) a0 21 (-1)) c47) a0 21 (-1)) + 1)) h
  unfold wX7_best at h
  refine q_aload_n C 0 rfl rfl dX7_best_0 ?_
  refine q_iload_n C 1 rfl rfl dX7_best_1 ?_
  refine q_iload_n C 2 rfl rfl dX7_best_2 ?_
  refine q_iload_n C 3 rfl rfl dX7_best_3 ?_
  refine q_iload C 4 rfl dX7_best_4 ?_
  refine q_iload C 5 rfl dX7_best_6 ?_
  refine q_callVI (As := [.int (gI a1), .int (gI a2), .int (gI a3), .int (gI a4), .int (gI a5)]) (st := []) C vX7_190 kX7_mayAsk ⟨Nat.le_of_ble_eq_true rfl, Nat.le_of_ble_eq_true rfl⟩ ⟨Nat.le_of_ble_eq_true rfl, Nat.le_of_ble_eq_true rfl⟩ rfl hk0 ⟨_, _, rfl⟩ (by decide) rfl (Nat.le_of_ble_eq_true rfl) (mX7_mayAsk l D cy kd ln rh _ a0 a1 a2 a3 a4 a5 M hk0 h) dX7_best_8 (fun c2 M1 g3 h => ?_)
  have h := h g3
  refine q_if_ne (tgt := 16) C g3 (by decide) dX7_best_11 (fun b4 => ?_) (fun b4 => ?_)
  · have h := h.1 b4
    refine q_aload_n C 0 rfl rfl dX7_best_16 ?_
    refine q_iload_n C 1 rfl rfl dX7_best_17 ?_
    refine q_iload_n C 2 rfl rfl dX7_best_18 ?_
    refine q_iload_n C 3 rfl rfl dX7_best_19 ?_
    refine q_iload C 4 rfl dX7_best_20 ?_
    refine q_iload C 5 rfl dX7_best_22 ?_
    refine q_callVI (As := [.int (gI a1), .int (gI a2), .int (gI a3), .int (gI a4), .int (gI a5)]) (st := []) C vX7_123 kX7_distanceOf ⟨Nat.le_of_ble_eq_true rfl, Nat.le_of_ble_eq_true rfl⟩ ⟨Nat.le_of_ble_eq_true rfl, Nat.le_of_ble_eq_true rfl⟩ rfl hk0 ⟨_, _, rfl⟩ (by decide) rfl (Nat.le_of_ble_eq_true rfl) (mX7_distanceOf l D cy kd ln rh _ a0 a1 a2 a3 a4 a5 M1 hk0 h) dX7_best_24 (fun c6 M5 g7 h => ?_)
    have h := h g7
    refine q_istore (lv' := [(6, .int (gI c6)), (0, .ref (gad a0)), (1, .int (gI a1)), (2, .int (gI a2)), (3, .int (gI a3)), (4, .int (gI a4)), (5, .int (gI a5))]) C (by decide) rfl dX7_best_27 ?_
    refine q_aload_n C 1 rfl rfl dX7_best_29 ?_
    refine q_iload_n C 2 rfl rfl dX7_best_30 ?_
    refine q_iload_n C 3 rfl rfl dX7_best_31 ?_
    refine q_iload_n C 4 rfl rfl dX7_best_32 ?_
    refine q_iload C 5 rfl dX7_best_33 ?_
    refine q_iload C 6 rfl dX7_best_35 ?_
    refine q_callVV (As := [.int (gI a1), .int (gI a2), .int (gI a3), .int (gI a4), .int (gI a5)]) (st := []) C vX7_138 kX7_find ⟨Nat.le_of_ble_eq_true rfl, Nat.le_of_ble_eq_true rfl⟩ ⟨Nat.le_of_ble_eq_true rfl, Nat.le_of_ble_eq_true rfl⟩ rfl hk0 ⟨_, _, rfl⟩ (by decide) rfl (Nat.le_of_ble_eq_true rfl) (mX7_find l D cy kd ln rh _ a0 a1 a2 a3 a4 a5 M5 hk0 h) dX7_best_37 (fun M8 h => ?_)
    refine q_aload_n C 1 rfl rfl dX7_best_40 ?_
    refine q_iconst C dX7_best_41 ?_
    refine q_put (x := 0) (ty := .int) C fX7_193 hk0 (fun _ _ _ q => by cases q; rfl) (congrArg (fun z => Value.int (gI z)) gu_s) rfl rfl (show rng 0 by decide) (fun j q => absurd (show (0 : Nat) = j + 3 from q) (by omega)) dX7_best_42 ?_
    refine q_iconst C dX7_best_45 ?_
    refine q_istore (lv' := [(7, .int (gI 0)), (6, .int (gI c6)), (0, .ref (gad a0)), (1, .int (gI a1)), (2, .int (gI a2)), (3, .int (gI a3)), (4, .int (gI a4)), (5, .int (gI a5))]) C (by decide) rfl dX7_best_46 ?_
    refine q_lv (lv' := [(0, .ref (gad a0)), (5, .int (gI a5)), (6, .int (gI c6)), (7, .int (gI 0))]) [2, 7, 1, 0] rfl ?_
    obtain ⟨j48, h⟩ := h
    exact t48  j48 c6 0 (gu M8 a0 21 (-1) 0) h
  · have h := h.2 b4
    refine q_iconst C dX7_best_14 ?_
    exact hret 0 M1 _ _ dX7_best_15 (show rng 0 by decide) h
set_option maxHeartbeats 4000000 in
set_option maxRecDepth 100000 in
theorem mX7_board (l : Launch) (D : va_G) (cy : Nat → ClassId) (kd : gKd) (ln : gLn) (rh : gRh) (post : Int → gM → Prop) (a0 : Int) (a1 : Int) (M : gM) (hk0 : kd a0 = 7) (h : wX7_board kd ln post a0 a1 M) : gMI l D cy yX7_board cX7_board 3 .boolean 1 22 [.ref (gad a0), .int (gI a1)] kd ln rh M post := by
  refine gMI_ofZ (own := RX7) (by decide) rfl (Nat.le_of_ble_eq_true rfl) ?_
  intro p e s m args below meth c A H0 Q C hret
  have t31 : ∀ (n : Nat) (x2 : Int) (M : gM), wX7_board_31 kd ln post a0 a1 n x2 M → gW p l e (gRm 1 22) s m args below meth c D cy A H0 Q 3 kd ln rh 0 0 M 31 [(0, .ref (gad a0)), (2, .int (gI x2))] [] := by
    intro n
    induction n with
    | zero => intro x2 M h; exact absurd h (by simp [wX7_board_31])
    | succ n ih =>
      intro x2 M h
      have hk31_ := ih
      rw [wX7_board_31] at h
      refine q_iload_n C 1 rfl rfl dX7_board_31 ?_
      refine q_iconst C dX7_board_32 ?_
      obtain ⟨r7, h⟩ := h
      refine q_icmp_ge (tgt := 49) C r7 (show rng 3 by decide) (by decide) dX7_board_33 (fun b8 => ?_) (fun b8 => ?_)
      · have h := h.1 b8
        refine q_aload_n C 0 rfl rfl dX7_board_49 ?_
        refine q_iconst C dX7_board_50 ?_
        refine q_put (x := (-1)) (ty := .int) C fX7_75 hk0 (fun _ _ _ q => by cases q; rfl) (congrArg (fun z => Value.int (gI z)) gu_s) rfl rfl (show rng (-1) by decide) (fun j q => absurd (show (0 : Nat) = j + 3 from q) (by omega)) dX7_board_51 ?_
        refine q_iconst C dX7_board_54 ?_
        exact hret 1 (gu M a0 26 (-1) (-1)) _ _ dX7_board_55 (Or.inr rfl) h
      · have h := h.2 b8
        refine q_aload_n C 0 rfl rfl dX7_board_36 ?_
        obtain ⟨r9, h⟩ := h
        refine q_get (v := .ref (rh a0 3)) C fX7_16 hk0 (if_neg (Int.not_lt.mpr r9)) dX7_board_37 (fun g10 => ?_)
        refine q_iload_n C 1 rfl rfl dX7_board_40 ?_
        refine q_iconst C dX7_board_41 ?_
        obtain ⟨r11, h⟩ := h
        refine q_zast C hk0 rfl (rng1 (Or.inl rfl)) (Or.inl rfl) r11 dX7_board_42 ?_
        refine q_iinc (lv' := [(2, .int (gI (x2 + 1))), (0, .ref (gad a0))]) C 1 rfl (by decide) rfl dX7_board_43 ?_
        refine q_goto (tgt := 31) C (by decide) dX7_board_46 ?_
        refine q_lv (lv' := [(0, .ref (gad a0)), (2, .int (gI (x2 + 1)))]) [1, 0] rfl ?_
        exact hk31_ (x2 + 1) (gu M a0 3 x2 0) h
  unfold wX7_board at h
  refine q_aload_n C 0 rfl rfl dX7_board_0 ?_
  refine q_iconst C dX7_board_1 ?_
  refine q_put (x := 0) (ty := .int) C fX7_81 hk0 (fun _ _ _ q => by cases q; rfl) (congrArg (fun z => Value.int (gI z)) gu_s) rfl rfl (show rng 0 by decide) (fun j q => absurd (show (0 : Nat) = j + 3 from q) (by omega)) dX7_board_2 ?_
  refine q_iload_n C 1 rfl rfl dX7_board_5 ?_
  refine q_iconst C dX7_board_6 ?_
  refine q_bipush C (by decide) dX7_board_7 ?_
  refine q_callSI (As := [.int (gI a1), .int (gI 4), .int (gI 8)]) (st := []) C vX7_84 kX7_in ⟨Nat.le_of_ble_eq_true rfl, Nat.le_of_ble_eq_true rfl⟩ ⟨Nat.le_of_ble_eq_true rfl, Nat.le_of_ble_eq_true rfl⟩ rfl rfl (Nat.le_of_ble_eq_true rfl) (mX7_in l D cy kd ln rh _ a1 4 8 (gu M a0 0 (-1) 0)  h) dX7_board_9 (fun c2 M1 g3 h => ?_)
  have h := h g3
  refine q_if_ne (tgt := 17) C g3 (by decide) dX7_board_12 (fun b4 => ?_) (fun b4 => ?_)
  · have h := h.1 b4
    refine q_aload_n C 0 rfl rfl dX7_board_17 ?_
    refine q_iload_n C 1 rfl rfl dX7_board_18 ?_
    obtain ⟨r5, h⟩ := h
    refine q_put (x := a1) (ty := .int) C fX7_7 hk0 (fun _ _ _ q => by cases q; rfl) (congrArg (fun z => Value.int (gI z)) gu_s) rfl rfl r5 (fun j q => absurd (show (0 : Nat) = j + 3 from q) (by omega)) dX7_board_19 ?_
    refine q_aload_n C 0 rfl rfl dX7_board_22 ?_
    refine q_iload_n C 1 rfl rfl dX7_board_23 ?_
    refine q_iload_n C 1 rfl rfl dX7_board_24 ?_
    refine q_imul C dX7_board_25 ?_
    obtain ⟨r6, h⟩ := h
    refine q_put (x := (a1 * a1)) (ty := .int) C fX7_13 hk0 (fun _ _ _ q => by cases q; rfl) (congrArg (fun z => Value.int (gI z)) gu_s) rfl rfl r6 (fun j q => absurd (show (0 : Nat) = j + 3 from q) (by omega)) dX7_board_26 ?_
    refine q_iconst C dX7_board_29 ?_
    refine q_istore_n (lv' := [(2, .int (gI 0)), (0, .ref (gad a0)), (1, .int (gI a1))]) C rfl (by decide) rfl dX7_board_30 ?_
    refine q_lv (lv' := [(0, .ref (gad a0)), (2, .int (gI 0))]) [1, 0] rfl ?_
    obtain ⟨j31, h⟩ := h
    exact t31  j31 0 (gu (gu M1 a0 1 (-1) a1) a0 2 (-1) (a1 * a1)) h
  · have h := h.2 b4
    refine q_iconst C dX7_board_15 ?_
    exact hret 0 M1 _ _ dX7_board_16 (Or.inl rfl) h
set_option maxHeartbeats 4000000 in
set_option maxRecDepth 100000 in
theorem mX7_isCanon (l : Launch) (D : va_G) (cy : Nat → ClassId) (kd : gKd) (ln : gLn) (rh : gRh) (post : Int → gM → Prop) (a0 : Int) (a1 : Int) (a2 : Int) (M : gM) (hk0 : kd a0 = 7) (h : wX7_isCanon kd ln post a0 a1 a2 M) : gMI l D cy yX7_isCanon cX7_isCanon 3 .boolean 0 0 [.ref (gad a0), .int (gI a1), .int (gI a2)] kd ln rh M post := by
  refine gMI_ofZ (own := RX7) (by decide) rfl (Nat.le_of_ble_eq_true rfl) ?_
  intro p e s m args below meth c A H0 Q C hret
  unfold wX7_isCanon at h
  refine q_aload_n C 0 rfl rfl dX7_isCanon_0 ?_
  obtain ⟨r1, h⟩ := h
  refine q_get (v := .ref (rh a0 5)) C fX7_26 hk0 (if_neg (Int.not_lt.mpr r1)) dX7_isCanon_1 (fun g2 => ?_)
  refine q_sipush C (by decide) dX7_isCanon_4 ?_
  refine q_iload_n C 1 rfl rfl dX7_isCanon_7 ?_
  refine q_imul C dX7_isCanon_8 ?_
  refine q_iload_n C 2 rfl rfl dX7_isCanon_9 ?_
  refine q_iconst C dX7_isCanon_10 ?_
  refine q_ishr C dX7_isCanon_11 ?_
  refine q_iadd C dX7_isCanon_12 ?_
  obtain ⟨r3, h⟩ := h
  refine q_iald C hk0 rfl (fun _ q => q) r3 dX7_isCanon_13 (fun g4 => ?_)
  have h := h g4
  refine q_iload_n C 2 rfl rfl dX7_isCanon_14 ?_
  refine q_bipush C (by decide) dX7_isCanon_15 ?_
  refine q_iand C dX7_isCanon_17 ?_
  refine q_ishr C dX7_isCanon_18 ?_
  refine q_iconst C dX7_isCanon_19 ?_
  refine q_iand C dX7_isCanon_20 ?_
  obtain ⟨r5, h⟩ := h
  refine q_if_eq (tgt := 28) C r5 (by decide) dX7_isCanon_21 (fun b6 => ?_) (fun b6 => ?_)
  · have h := h.1 b6
    refine q_iconst C dX7_isCanon_28 ?_
    exact hret 0 M _ _ dX7_isCanon_29 (Or.inl rfl) h
  · have h := h.2 b6
    refine q_iconst C dX7_isCanon_24 ?_
    refine q_goto (tgt := 29) C (by decide) dX7_isCanon_25 ?_
    exact hret 1 M _ _ dX7_isCanon_29 (Or.inr rfl) h
set_option maxHeartbeats 4000000 in
set_option maxRecDepth 100000 in
theorem mX7_isSqueezed (l : Launch) (D : va_G) (cy : Nat → ClassId) (kd : gKd) (ln : gLn) (rh : gRh) (post : Int → gM → Prop) (a0 : Int) (a1 : Int) (a2 : Int) (M : gM) (hk0 : kd a0 = 7) (h : wX7_isSqueezed kd ln post a0 a1 a2 M) : gMI l D cy yX7_isSqueezed cX7_isSqueezed 9 .boolean 4 100 [.ref (gad a0), .int (gI a1), .int (gI a2)] kd ln rh M post := by
  refine gMI_ofZ (own := RX7) (by decide) rfl (Nat.le_of_ble_eq_true rfl) ?_
  intro p e s m args below meth c A H0 Q C hret
  have t125 : ∀ (M : gM), wX7_isSqueezed_125 kd ln post a0 a1 a2  M → gW p l e (gRm 4 100) s m args below meth c D cy A H0 Q 9 kd ln rh 0 0 M 125 [] [] := by
    intro   M h
    unfold wX7_isSqueezed_125 at h
    refine q_iconst C dX7_isSqueezed_125 ?_
    refine q_goto (tgt := 144) C (by decide) dX7_isSqueezed_126 ?_
    exact hret 0 M _ _ dX7_isSqueezed_144 (Or.inl rfl) h
  have t105 : ∀ (x3 : Int) (x7 : Int) (y0 : Int) (M : gM), wX7_isSqueezed_105 kd ln post a0 a1 a2 x3 x7 y0 M → gW p l e (gRm 4 100) s m args below meth c D cy A H0 Q 9 kd ln rh 0 0 M 105 [(3, .int (gI x3)), (7, .int (gI x7))] [.int (gI y0)] := by
    intro  x3 x7 y0 M h
    unfold wX7_isSqueezed_105 at h
    refine q_istore (lv' := [(8, .int (gI y0)), (3, .int (gI x3)), (7, .int (gI x7))]) C (by decide) rfl dX7_isSqueezed_105 ?_
    refine q_iload_n C 1 rfl rfl dX7_isSqueezed_107 ?_
    obtain ⟨r27, h⟩ := h
    refine q_if_ne (tgt := 129) C r27 (by decide) dX7_isSqueezed_108 (fun b28 => ?_) (fun b28 => ?_)
    · have h := h.1 b28
      refine q_iload C 2 rfl dX7_isSqueezed_129 ?_
      obtain ⟨r29, h⟩ := h
      refine q_if_eq (tgt := 143) C r29 (by decide) dX7_isSqueezed_131 (fun b30 => ?_) (fun b30 => ?_)
      · have h := h.1 b30
        refine q_iconst C dX7_isSqueezed_143 ?_
        exact hret 0 M _ _ dX7_isSqueezed_144 (Or.inl rfl) h
      · have h := h.2 b30
        refine q_iload C 0 rfl dX7_isSqueezed_134 ?_
        obtain ⟨r31, h⟩ := h
        refine q_if_ne (tgt := 143) C r31 (by decide) dX7_isSqueezed_136 (fun b32 => ?_) (fun b32 => ?_)
        · have h := h.1 b32
          refine q_iconst C dX7_isSqueezed_143 ?_
          exact hret 0 M _ _ dX7_isSqueezed_144 (Or.inl rfl) h
        · have h := h.2 b32
          refine q_iconst C dX7_isSqueezed_139 ?_
          refine q_goto (tgt := 144) C (by decide) dX7_isSqueezed_140 ?_
          exact hret 1 M _ _ dX7_isSqueezed_144 (Or.inr rfl) h
    · have h := h.2 b28
      refine q_iload C 2 rfl dX7_isSqueezed_111 ?_
      obtain ⟨r33, h⟩ := h
      refine q_if_ne (tgt := 125) C r33 (by decide) dX7_isSqueezed_113 (fun b34 => ?_) (fun b34 => ?_)
      · have h := h.1 b34
        refine q_lv (lv' := []) [] rfl ?_
        exact t125  M h
      · have h := h.2 b34
        refine q_iload C 0 rfl dX7_isSqueezed_116 ?_
        obtain ⟨r35, h⟩ := h
        refine q_if_eq (tgt := 125) C r35 (by decide) dX7_isSqueezed_118 (fun b36 => ?_) (fun b36 => ?_)
        · have h := h.1 b36
          refine q_lv (lv' := []) [] rfl ?_
          exact t125  M h
        · have h := h.2 b36
          refine q_iconst C dX7_isSqueezed_121 ?_
          refine q_goto (tgt := 144) C (by decide) dX7_isSqueezed_122 ?_
          exact hret 1 M _ _ dX7_isSqueezed_144 (Or.inr rfl) h
  have t82 : ∀ (x3 : Int) (y0 : Int) (M : gM), wX7_isSqueezed_82 kd ln post a0 a1 a2 x3 y0 M → gW p l e (gRm 4 100) s m args below meth c D cy A H0 Q 9 kd ln rh 0 0 M 82 [(0, .ref (gad a0)), (1, .int (gI a1)), (2, .int (gI a2)), (3, .int (gI x3))] [.int (gI y0)] := by
    intro  x3 y0 M h
    unfold wX7_isSqueezed_82 at h
    refine q_istore (lv' := [(7, .int (gI y0)), (0, .ref (gad a0)), (1, .int (gI a1)), (2, .int (gI a2)), (3, .int (gI x3))]) C (by decide) rfl dX7_isSqueezed_82 ?_
    refine q_aload_n C 1 rfl rfl dX7_isSqueezed_84 ?_
    obtain ⟨r22, h⟩ := h
    refine q_get (v := .ref (rh a0 4)) C fX7_21 hk0 (if_neg (Int.not_lt.mpr r22)) dX7_isSqueezed_85 (fun g23 => ?_)
    refine q_ldc (n := 524288) C nX7_118 (by decide) dX7_isSqueezed_88 ?_
    refine q_iload_n C 2 rfl rfl dX7_isSqueezed_90 ?_
    refine q_imul C dX7_isSqueezed_91 ?_
    refine q_iload_n C 3 rfl rfl dX7_isSqueezed_92 ?_
    refine q_iconst C dX7_isSqueezed_93 ?_
    refine q_ixor C dX7_isSqueezed_94 ?_
    refine q_iadd C dX7_isSqueezed_95 ?_
    obtain ⟨r24, h⟩ := h
    refine q_bald C hk0 rfl (fun _ q => q) r24 dX7_isSqueezed_96 (fun g25 => ?_)
    have h := h g25
    refine q_if_le (tgt := 104) C g25 (by decide) dX7_isSqueezed_97 (fun b26 => ?_) (fun b26 => ?_)
    · have h := h.1 b26
      refine q_iconst C dX7_isSqueezed_104 ?_
      refine q_lv (lv' := [(3, .int (gI x3)), (7, .int (gI y0))]) [4, 0] rfl ?_
      exact t105  x3 y0 0 M h
    · have h := h.2 b26
      refine q_iconst C dX7_isSqueezed_100 ?_
      refine q_goto (tgt := 105) C (by decide) dX7_isSqueezed_101 ?_
      refine q_lv (lv' := [(3, .int (gI x3)), (7, .int (gI y0))]) [4, 0] rfl ?_
      exact t105  x3 y0 1 M h
  unfold wX7_isSqueezed at h
  refine q_iload_n C 2 rfl rfl dX7_isSqueezed_0 ?_
  refine q_iconst C dX7_isSqueezed_1 ?_
  refine q_iand C dX7_isSqueezed_2 ?_
  refine q_topi (fun v1 ev1 => ?_)
  have h := h v1 ev1
  refine q_istore_n (lv' := [(3, .int (gI v1)), (0, .ref (gad a0)), (1, .int (gI a1)), (2, .int (gI a2))]) C rfl (by decide) rfl dX7_isSqueezed_3 ?_
  refine q_iload_n C 3 rfl rfl dX7_isSqueezed_4 ?_
  refine q_iconst C dX7_isSqueezed_5 ?_
  obtain ⟨r2, h⟩ := h
  refine q_idiv C ⟨r2.1, r2.2, by decide, by decide⟩ dX7_isSqueezed_6 ?_
  refine q_aload_n C 1 rfl rfl dX7_isSqueezed_7 ?_
  refine q_get (v := .int (gI (M a0 2 (-1)))) C fX7_13 hk0 rfl dX7_isSqueezed_8 (fun g3 => ?_)
  have h := h g3
  obtain ⟨r4, h⟩ := h
  refine q_idiv C r4 dX7_isSqueezed_11 ?_
  refine q_aload_n C 1 rfl rfl dX7_isSqueezed_12 ?_
  refine q_get (v := .int (gI (M a0 2 (-1)))) C fX7_13 hk0 rfl dX7_isSqueezed_13 (fun g5 => ?_)
  obtain ⟨r6, h⟩ := h
  refine q_idiv C r6 dX7_isSqueezed_16 ?_
  refine q_topi (fun v7 ev7 => ?_)
  have h := h v7 ev7
  refine q_istore (lv' := [(4, .int (gI v7)), (3, .int (gI v1)), (0, .ref (gad a0)), (1, .int (gI a1)), (2, .int (gI a2))]) C (by decide) rfl dX7_isSqueezed_17 ?_
  refine q_iload_n C 4 rfl rfl dX7_isSqueezed_19 ?_
  refine q_iconst C dX7_isSqueezed_20 ?_
  refine q_idiv C ⟨r2.1, r2.2, by decide, by decide⟩ dX7_isSqueezed_21 ?_
  refine q_aload_n C 2 rfl rfl dX7_isSqueezed_22 ?_
  refine q_get (v := .int (gI (M a0 2 (-1)))) C fX7_13 hk0 rfl dX7_isSqueezed_23 (fun g8 => ?_)
  refine q_idiv C r4 dX7_isSqueezed_26 ?_
  refine q_aload_n C 2 rfl rfl dX7_isSqueezed_27 ?_
  refine q_get (v := .int (gI (M a0 2 (-1)))) C fX7_13 hk0 rfl dX7_isSqueezed_28 (fun g9 => ?_)
  refine q_irem C r6 dX7_isSqueezed_31 ?_
  refine q_topi (fun v10 ev10 => ?_)
  have h := h v10 ev10
  refine q_istore (lv' := [(5, .int (gI v10)), (4, .int (gI v7)), (3, .int (gI v1)), (0, .ref (gad a0)), (1, .int (gI a1)), (2, .int (gI a2))]) C (by decide) rfl dX7_isSqueezed_32 ?_
  refine q_iload_n C 5 rfl rfl dX7_isSqueezed_34 ?_
  refine q_iconst C dX7_isSqueezed_35 ?_
  refine q_idiv C ⟨r2.1, r2.2, by decide, by decide⟩ dX7_isSqueezed_36 ?_
  refine q_aload_n C 3 rfl rfl dX7_isSqueezed_37 ?_
  refine q_get (v := .int (gI (M a0 2 (-1)))) C fX7_13 hk0 rfl dX7_isSqueezed_38 (fun g11 => ?_)
  refine q_irem C r4 dX7_isSqueezed_41 ?_
  refine q_topi (fun v12 ev12 => ?_)
  have h := h v12 ev12
  refine q_istore (lv' := [(6, .int (gI v12)), (5, .int (gI v10)), (4, .int (gI v7)), (3, .int (gI v1)), (0, .ref (gad a0)), (1, .int (gI a1)), (2, .int (gI a2))]) C (by decide) rfl dX7_isSqueezed_42 ?_
  refine q_aload_n C 4 rfl rfl dX7_isSqueezed_44 ?_
  refine q_iload_n C 5 rfl rfl dX7_isSqueezed_45 ?_
  refine q_iload C 2 rfl dX7_isSqueezed_46 ?_
  refine q_iload C 1 rfl dX7_isSqueezed_48 ?_
  refine q_iload C 0 rfl dX7_isSqueezed_50 ?_
  refine q_iconst C dX7_isSqueezed_52 ?_
  refine q_iload_n C 3 rfl rfl dX7_isSqueezed_53 ?_
  refine q_isub C dX7_isSqueezed_54 ?_
  refine q_callVI (As := [.int (gI a1), .int (gI v7), .int (gI v10), .int (gI v12), .int (gI (1 - v1))]) (st := []) C vX7_107 kX7_legal ⟨Nat.le_of_ble_eq_true rfl, Nat.le_of_ble_eq_true rfl⟩ ⟨Nat.le_of_ble_eq_true rfl, Nat.le_of_ble_eq_true rfl⟩ rfl hk0 ⟨_, _, rfl⟩ (by decide) rfl (Nat.le_of_ble_eq_true rfl) (mX7_legal l D cy kd ln rh _ a0 a1 v7 v10 v12 (1 - v1) M hk0 h) dX7_isSqueezed_55 (fun c14 M13 g15 h => ?_)
  have h := h g15
  refine q_if_ne (tgt := 63) C g15 (by decide) dX7_isSqueezed_58 (fun b16 => ?_) (fun b16 => ?_)
  · have h := h.1 b16
    refine q_aload_n C 4 rfl rfl dX7_isSqueezed_63 ?_
    obtain ⟨r17, h⟩ := h
    refine q_get (v := .ref (rh a0 4)) C fX7_21 hk0 (if_neg (Int.not_lt.mpr r17)) dX7_isSqueezed_64 (fun g18 => ?_)
    refine q_ldc (n := 524288) C nX7_118 (by decide) dX7_isSqueezed_67 ?_
    refine q_iload_n C 5 rfl rfl dX7_isSqueezed_69 ?_
    refine q_imul C dX7_isSqueezed_70 ?_
    refine q_iload_n C 6 rfl rfl dX7_isSqueezed_71 ?_
    refine q_iadd C dX7_isSqueezed_72 ?_
    obtain ⟨r19, h⟩ := h
    refine q_bald C hk0 rfl (fun _ q => q) r19 dX7_isSqueezed_73 (fun g20 => ?_)
    have h := h g20
    refine q_if_le (tgt := 81) C g20 (by decide) dX7_isSqueezed_74 (fun b21 => ?_) (fun b21 => ?_)
    · have h := h.1 b21
      refine q_iconst C dX7_isSqueezed_81 ?_
      refine q_lv (lv' := [(0, .ref (gad a0)), (1, .int (gI a1)), (2, .int (gI a2)), (3, .int (gI v1))]) [4, 5, 6, 3] rfl ?_
      exact t82  v1 0 M13 h
    · have h := h.2 b21
      refine q_iconst C dX7_isSqueezed_77 ?_
      refine q_goto (tgt := 82) C (by decide) dX7_isSqueezed_78 ?_
      refine q_lv (lv' := [(0, .ref (gad a0)), (1, .int (gI a1)), (2, .int (gI a2)), (3, .int (gI v1))]) [4, 5, 6, 3] rfl ?_
      exact t82  v1 1 M13 h
  · have h := h.2 b16
    refine q_iconst C dX7_isSqueezed_61 ?_
    exact hret 0 M13 _ _ dX7_isSqueezed_62 (Or.inl rfl) h
