set_option maxHeartbeats 4000000 in
set_option maxRecDepth 100000 in
theorem mL_law {p : Program} {e : Env} {s : State} {m : MethodId} {args : Array Value} {below : List Frame} {meth : Method} {c : Code} {A : Nat → Prop} {H0 : Heap} {Q : State → Prop} (l : Launch) (D : va_G) (cy : Nat → ClassId) (mc ms : Nat) (kd : gKd) (ln : gLn) (rh : gRh) (sL : Int) (sx : Int → Int) (b9 : Nat) (M : gM) (hst : l.stackTraces = false) (C : gC p s m args c cL_law 7 RL D cy A H0) (hX : gScr b9 sL sx s H0 A) (hret : ∀ (kd9 : gKd) (ln9 : gLn) (rh9 : gRh) (M9 : gM) (pc9 : Nat) (lv9 : List (Nat × Value)) (ce sl : Nat), ce ≤ mc → sl ≤ ms → decode cL_law pc9 = .ok (.ireturn, 1) → gW p l e (gRx 12 512 mc ms) s m args below meth c D cy A H0 Q 7 kd9 ln9 rh9 ce sl M9 pc9 lv9 [.int (gI 1)]) (h : wL_law mc ms kd ln sL sx M) : gW p l e (gRx 12 512 mc ms) s m args below meth c D cy A H0 Q 7 kd ln rh 0 0 M 0 [(0, .ref b9)] [] := by
  have t1246 : ∀ (k23 : gKd → gLn → Nat → Nat → Int → Int → Int → Int → gM → Prop), (∀ (kd_ : gKd) (ln_ : gLn) (rh_ : gRh) (c_ s_ : Nat) (kp_ : gKp kd ln rh kd_ ln_ rh_), ∀ (x1 : Int), ∀ (x2 : Int), ∀ (x3 : Int), ∀ (x4 : Int), ∀ (M : gM), k23 kd_ ln_ c_ s_ x1 x2 x3 x4 M → gW p l e (gRx 12 512 mc ms) s m args below meth c D cy A H0 Q 7 kd_ ln_ rh_ c_ s_ M 23 [(0, .ref b9), (1, .ref (gad x1)), (2, .ref (gad x2)), (3, .ref (rh_ x3 0)), (4, .int (gI x4))] []) → ∀ (kd_ : gKd) (ln_ : gLn) (rh_ : gRh) (c_ s_ : Nat) (kp_ : gKp kd ln rh kd_ ln_ rh_) (x1 : Int) (x2 : Int) (x3 : Int) (x4 : Int) (M : gM), wL_law_1246 mc ms  sL sx k23 kd_ ln_ c_ s_ x1 x2 x3 x4 M → gW p l e (gRx 12 512 mc ms) s m args below meth c D cy A H0 Q 7 kd_ ln_ rh_ c_ s_ M 1246 [(0, .ref b9), (1, .ref (gad x1)), (2, .ref (gad x2)), (3, .ref (rh_ x3 0)), (4, .int (gI x4))] [] := by
    intro k23 hk23_ kd_ ln_ rh_ c_ s_ kp_ x1 x2 x3 x4 M h
    unfold wL_law_1246 at h
    obtain ⟨r346, h⟩ := h
    obtain ⟨r347, h⟩ := h
    obtain ⟨r348, h⟩ := h
    obtain ⟨r349, h⟩ := h
    obtain ⟨r350, h⟩ := h
    refine q_iinc (lv' := [(4, .int (gI (x4 + 6))), (0, .ref b9), (1, .ref (gad x1)), (2, .ref (gad x2)), (3, .ref (rh_ x3 0))]) C 4 rfl (by decide) rfl dL_law_1246 ?_
    refine q_goto (tgt := 23) C (by decide) dL_law_1249 ?_
    refine q_lv (lv' := [(0, .ref b9), (1, .ref (gad x1)), (2, .ref (gad x2)), (3, .ref (rh_ x3 0)), (4, .int (gI (x4 + 6)))]) [1, 2, 3, 4, 0] rfl ?_
    exact hk23_ kd_ ln_ rh_ c_ s_ kp_ x1 x2 x3 (x4 + 6) M h
  have t421 : ∀ (k23 : gKd → gLn → Nat → Nat → Int → Int → Int → Int → gM → Prop), (∀ (kd_ : gKd) (ln_ : gLn) (rh_ : gRh) (c_ s_ : Nat) (kp_ : gKp kd ln rh kd_ ln_ rh_), ∀ (x1 : Int), ∀ (x2 : Int), ∀ (x3 : Int), ∀ (x4 : Int), ∀ (M : gM), k23 kd_ ln_ c_ s_ x1 x2 x3 x4 M → gW p l e (gRx 12 512 mc ms) s m args below meth c D cy A H0 Q 7 kd_ ln_ rh_ c_ s_ M 23 [(0, .ref b9), (1, .ref (gad x1)), (2, .ref (gad x2)), (3, .ref (rh_ x3 0)), (4, .int (gI x4))] []) → ∀ (kd_ : gKd) (ln_ : gLn) (rh_ : gRh) (c_ s_ : Nat) (kp_ : gKp kd ln rh kd_ ln_ rh_) (x1 : Int) (x2 : Int) (x3 : Int) (x4 : Int) (M : gM), wL_law_421 mc ms  sL sx k23 kd_ ln_ c_ s_ x1 x2 x3 x4 M → gW p l e (gRx 12 512 mc ms) s m args below meth c D cy A H0 Q 7 kd_ ln_ rh_ c_ s_ M 421 [(0, .ref b9), (1, .ref (gad x1)), (2, .ref (gad x2)), (3, .ref (rh_ x3 0)), (4, .int (gI x4))] [] := by
    intro k23 hk23_ kd_ ln_ rh_ c_ s_ kp_ x1 x2 x3 x4 M h
    unfold wL_law_421 at h
    obtain ⟨r341, h⟩ := h
    obtain ⟨r342, h⟩ := h
    obtain ⟨r343, h⟩ := h
    obtain ⟨r344, h⟩ := h
    obtain ⟨r345, h⟩ := h
    refine q_goto (tgt := 1246) C (by decide) dL_law_421 ?_
    exact t1246 k23 hk23_ kd_ ln_ rh_ c_ s_ kp_ x1 x2 x3 x4 M h
  have t525 : ∀ (k23 : gKd → gLn → Nat → Nat → Int → Int → Int → Int → gM → Prop), (∀ (kd_ : gKd) (ln_ : gLn) (rh_ : gRh) (c_ s_ : Nat) (kp_ : gKp kd ln rh kd_ ln_ rh_), ∀ (x1 : Int), ∀ (x2 : Int), ∀ (x3 : Int), ∀ (x4 : Int), ∀ (M : gM), k23 kd_ ln_ c_ s_ x1 x2 x3 x4 M → gW p l e (gRx 12 512 mc ms) s m args below meth c D cy A H0 Q 7 kd_ ln_ rh_ c_ s_ M 23 [(0, .ref b9), (1, .ref (gad x1)), (2, .ref (gad x2)), (3, .ref (rh_ x3 0)), (4, .int (gI x4))] []) → ∀ (kd_ : gKd) (ln_ : gLn) (rh_ : gRh) (c_ s_ : Nat) (kp_ : gKp kd ln rh kd_ ln_ rh_) (x1 : Int) (x2 : Int) (x3 : Int) (x4 : Int) (M : gM), wL_law_525 mc ms  sL sx k23 kd_ ln_ c_ s_ x1 x2 x3 x4 M → gW p l e (gRx 12 512 mc ms) s m args below meth c D cy A H0 Q 7 kd_ ln_ rh_ c_ s_ M 525 [(0, .ref b9), (1, .ref (gad x1)), (2, .ref (gad x2)), (3, .ref (rh_ x3 0)), (4, .int (gI x4))] [] := by
    intro k23 hk23_ kd_ ln_ rh_ c_ s_ kp_ x1 x2 x3 x4 M h
    unfold wL_law_525 at h
    obtain ⟨r336, h⟩ := h
    obtain ⟨r337, h⟩ := h
    obtain ⟨r338, h⟩ := h
    obtain ⟨r339, h⟩ := h
    obtain ⟨r340, h⟩ := h
    refine q_goto (tgt := 1246) C (by decide) dL_law_525 ?_
    exact t1246 k23 hk23_ kd_ ln_ rh_ c_ s_ kp_ x1 x2 x3 x4 M h
  have t666 : ∀ (k23 : gKd → gLn → Nat → Nat → Int → Int → Int → Int → gM → Prop), (∀ (kd_ : gKd) (ln_ : gLn) (rh_ : gRh) (c_ s_ : Nat) (kp_ : gKp kd ln rh kd_ ln_ rh_), ∀ (x1 : Int), ∀ (x2 : Int), ∀ (x3 : Int), ∀ (x4 : Int), ∀ (M : gM), k23 kd_ ln_ c_ s_ x1 x2 x3 x4 M → gW p l e (gRx 12 512 mc ms) s m args below meth c D cy A H0 Q 7 kd_ ln_ rh_ c_ s_ M 23 [(0, .ref b9), (1, .ref (gad x1)), (2, .ref (gad x2)), (3, .ref (rh_ x3 0)), (4, .int (gI x4))] []) → ∀ (kd_ : gKd) (ln_ : gLn) (rh_ : gRh) (c_ s_ : Nat) (kp_ : gKp kd ln rh kd_ ln_ rh_) (x1 : Int) (x2 : Int) (x3 : Int) (x4 : Int) (M : gM), wL_law_666 mc ms  sL sx k23 kd_ ln_ c_ s_ x1 x2 x3 x4 M → gW p l e (gRx 12 512 mc ms) s m args below meth c D cy A H0 Q 7 kd_ ln_ rh_ c_ s_ M 666 [(0, .ref b9), (1, .ref (gad x1)), (2, .ref (gad x2)), (3, .ref (rh_ x3 0)), (4, .int (gI x4))] [] := by
    intro k23 hk23_ kd_ ln_ rh_ c_ s_ kp_ x1 x2 x3 x4 M h
    unfold wL_law_666 at h
    obtain ⟨r331, h⟩ := h
    obtain ⟨r332, h⟩ := h
    obtain ⟨r333, h⟩ := h
    obtain ⟨r334, h⟩ := h
    obtain ⟨r335, h⟩ := h
    refine q_goto (tgt := 1246) C (by decide) dL_law_666 ?_
    exact t1246 k23 hk23_ kd_ ln_ rh_ c_ s_ kp_ x1 x2 x3 x4 M h
  have t807 : ∀ (k23 : gKd → gLn → Nat → Nat → Int → Int → Int → Int → gM → Prop), (∀ (kd_ : gKd) (ln_ : gLn) (rh_ : gRh) (c_ s_ : Nat) (kp_ : gKp kd ln rh kd_ ln_ rh_), ∀ (x1 : Int), ∀ (x2 : Int), ∀ (x3 : Int), ∀ (x4 : Int), ∀ (M : gM), k23 kd_ ln_ c_ s_ x1 x2 x3 x4 M → gW p l e (gRx 12 512 mc ms) s m args below meth c D cy A H0 Q 7 kd_ ln_ rh_ c_ s_ M 23 [(0, .ref b9), (1, .ref (gad x1)), (2, .ref (gad x2)), (3, .ref (rh_ x3 0)), (4, .int (gI x4))] []) → ∀ (kd_ : gKd) (ln_ : gLn) (rh_ : gRh) (c_ s_ : Nat) (kp_ : gKp kd ln rh kd_ ln_ rh_) (x1 : Int) (x2 : Int) (x3 : Int) (x4 : Int) (M : gM), wL_law_807 mc ms  sL sx k23 kd_ ln_ c_ s_ x1 x2 x3 x4 M → gW p l e (gRx 12 512 mc ms) s m args below meth c D cy A H0 Q 7 kd_ ln_ rh_ c_ s_ M 807 [(0, .ref b9), (1, .ref (gad x1)), (2, .ref (gad x2)), (3, .ref (rh_ x3 0)), (4, .int (gI x4))] [] := by
    intro k23 hk23_ kd_ ln_ rh_ c_ s_ kp_ x1 x2 x3 x4 M h
    unfold wL_law_807 at h
    obtain ⟨r326, h⟩ := h
    obtain ⟨r327, h⟩ := h
    obtain ⟨r328, h⟩ := h
    obtain ⟨r329, h⟩ := h
    obtain ⟨r330, h⟩ := h
    refine q_goto (tgt := 1246) C (by decide) dL_law_807 ?_
    exact t1246 k23 hk23_ kd_ ln_ rh_ c_ s_ kp_ x1 x2 x3 x4 M h
  have t887 : ∀ (k23 : gKd → gLn → Nat → Nat → Int → Int → Int → Int → gM → Prop), (∀ (kd_ : gKd) (ln_ : gLn) (rh_ : gRh) (c_ s_ : Nat) (kp_ : gKp kd ln rh kd_ ln_ rh_), ∀ (x1 : Int), ∀ (x2 : Int), ∀ (x3 : Int), ∀ (x4 : Int), ∀ (M : gM), k23 kd_ ln_ c_ s_ x1 x2 x3 x4 M → gW p l e (gRx 12 512 mc ms) s m args below meth c D cy A H0 Q 7 kd_ ln_ rh_ c_ s_ M 23 [(0, .ref b9), (1, .ref (gad x1)), (2, .ref (gad x2)), (3, .ref (rh_ x3 0)), (4, .int (gI x4))] []) → ∀ (kd_ : gKd) (ln_ : gLn) (rh_ : gRh) (c_ s_ : Nat) (kp_ : gKp kd ln rh kd_ ln_ rh_) (x1 : Int) (x2 : Int) (x3 : Int) (x4 : Int) (M : gM), wL_law_887 mc ms  sL sx k23 kd_ ln_ c_ s_ x1 x2 x3 x4 M → gW p l e (gRx 12 512 mc ms) s m args below meth c D cy A H0 Q 7 kd_ ln_ rh_ c_ s_ M 887 [(0, .ref b9), (1, .ref (gad x1)), (2, .ref (gad x2)), (3, .ref (rh_ x3 0)), (4, .int (gI x4))] [] := by
    intro k23 hk23_ kd_ ln_ rh_ c_ s_ kp_ x1 x2 x3 x4 M h
    unfold wL_law_887 at h
    obtain ⟨r321, h⟩ := h
    obtain ⟨r322, h⟩ := h
    obtain ⟨r323, h⟩ := h
    obtain ⟨r324, h⟩ := h
    obtain ⟨r325, h⟩ := h
    refine q_goto (tgt := 1246) C (by decide) dL_law_887 ?_
    exact t1246 k23 hk23_ kd_ ln_ rh_ c_ s_ kp_ x1 x2 x3 x4 M h
  have t967 : ∀ (k23 : gKd → gLn → Nat → Nat → Int → Int → Int → Int → gM → Prop), (∀ (kd_ : gKd) (ln_ : gLn) (rh_ : gRh) (c_ s_ : Nat) (kp_ : gKp kd ln rh kd_ ln_ rh_), ∀ (x1 : Int), ∀ (x2 : Int), ∀ (x3 : Int), ∀ (x4 : Int), ∀ (M : gM), k23 kd_ ln_ c_ s_ x1 x2 x3 x4 M → gW p l e (gRx 12 512 mc ms) s m args below meth c D cy A H0 Q 7 kd_ ln_ rh_ c_ s_ M 23 [(0, .ref b9), (1, .ref (gad x1)), (2, .ref (gad x2)), (3, .ref (rh_ x3 0)), (4, .int (gI x4))] []) → ∀ (kd_ : gKd) (ln_ : gLn) (rh_ : gRh) (c_ s_ : Nat) (kp_ : gKp kd ln rh kd_ ln_ rh_) (x1 : Int) (x2 : Int) (x3 : Int) (x4 : Int) (M : gM), wL_law_967 mc ms  sL sx k23 kd_ ln_ c_ s_ x1 x2 x3 x4 M → gW p l e (gRx 12 512 mc ms) s m args below meth c D cy A H0 Q 7 kd_ ln_ rh_ c_ s_ M 967 [(0, .ref b9), (1, .ref (gad x1)), (2, .ref (gad x2)), (3, .ref (rh_ x3 0)), (4, .int (gI x4))] [] := by
    intro k23 hk23_ kd_ ln_ rh_ c_ s_ kp_ x1 x2 x3 x4 M h
    unfold wL_law_967 at h
    obtain ⟨r316, h⟩ := h
    obtain ⟨r317, h⟩ := h
    obtain ⟨r318, h⟩ := h
    obtain ⟨r319, h⟩ := h
    obtain ⟨r320, h⟩ := h
    refine q_goto (tgt := 1246) C (by decide) dL_law_967 ?_
    exact t1246 k23 hk23_ kd_ ln_ rh_ c_ s_ kp_ x1 x2 x3 x4 M h
  have t1047 : ∀ (k23 : gKd → gLn → Nat → Nat → Int → Int → Int → Int → gM → Prop), (∀ (kd_ : gKd) (ln_ : gLn) (rh_ : gRh) (c_ s_ : Nat) (kp_ : gKp kd ln rh kd_ ln_ rh_), ∀ (x1 : Int), ∀ (x2 : Int), ∀ (x3 : Int), ∀ (x4 : Int), ∀ (M : gM), k23 kd_ ln_ c_ s_ x1 x2 x3 x4 M → gW p l e (gRx 12 512 mc ms) s m args below meth c D cy A H0 Q 7 kd_ ln_ rh_ c_ s_ M 23 [(0, .ref b9), (1, .ref (gad x1)), (2, .ref (gad x2)), (3, .ref (rh_ x3 0)), (4, .int (gI x4))] []) → ∀ (kd_ : gKd) (ln_ : gLn) (rh_ : gRh) (c_ s_ : Nat) (kp_ : gKp kd ln rh kd_ ln_ rh_) (x1 : Int) (x2 : Int) (x3 : Int) (x4 : Int) (M : gM), wL_law_1047 mc ms  sL sx k23 kd_ ln_ c_ s_ x1 x2 x3 x4 M → gW p l e (gRx 12 512 mc ms) s m args below meth c D cy A H0 Q 7 kd_ ln_ rh_ c_ s_ M 1047 [(0, .ref b9), (1, .ref (gad x1)), (2, .ref (gad x2)), (3, .ref (rh_ x3 0)), (4, .int (gI x4))] [] := by
    intro k23 hk23_ kd_ ln_ rh_ c_ s_ kp_ x1 x2 x3 x4 M h
    unfold wL_law_1047 at h
    obtain ⟨r311, h⟩ := h
    obtain ⟨r312, h⟩ := h
    obtain ⟨r313, h⟩ := h
    obtain ⟨r314, h⟩ := h
    obtain ⟨r315, h⟩ := h
    refine q_goto (tgt := 1246) C (by decide) dL_law_1047 ?_
    exact t1246 k23 hk23_ kd_ ln_ rh_ c_ s_ kp_ x1 x2 x3 x4 M h
  have t23 : ∀ (n : Nat) (kd_ : gKd) (ln_ : gLn) (rh_ : gRh) (c_ s_ : Nat) (kp_ : gKp kd ln rh kd_ ln_ rh_) (x1 : Int) (x2 : Int) (x3 : Int) (x4 : Int) (M : gM), wL_law_23 mc ms  sL sx n kd_ ln_ c_ s_ x1 x2 x3 x4 M → gW p l e (gRx 12 512 mc ms) s m args below meth c D cy A H0 Q 7 kd_ ln_ rh_ c_ s_ M 23 [(0, .ref b9), (1, .ref (gad x1)), (2, .ref (gad x2)), (3, .ref (rh_ x3 0)), (4, .int (gI x4))] [] := by
    intro n
    induction n with
    | zero => intro kd_ ln_ rh_ c_ s_ kp_ x1 x2 x3 x4 M h; exact absurd h (by simp [wL_law_23])
    | succ n ih =>
      intro kd_ ln_ rh_ c_ s_ kp_ x1 x2 x3 x4 M h
      have hk23_ := ih
      rw [wL_law_23] at h
      obtain ⟨r52, h⟩ := h
      obtain ⟨r53, h⟩ := h
      obtain ⟨r54, h⟩ := h
      obtain ⟨r55, h⟩ := h
      obtain ⟨r56, h⟩ := h
      refine q_iload C 4 rfl dL_law_23 ?_
      refine q_aload_n C 0 rfl rfl dL_law_25 ?_
      refine q_slen C hX dL_law_26 ?_
      refine q_bipush C (by decide) dL_law_27 ?_
      refine q_isub C dL_law_29 ?_
      obtain ⟨r57, h⟩ := h
      obtain ⟨r58, h⟩ := h
      refine q_icmp_gt (tgt := 1252) C r57 r58 (by decide) dL_law_30 (fun b59 => ?_) (fun b59 => ?_)
      · have h := h.1 b59
        refine q_iconst C dL_law_1252 ?_
        exact hret kd_ ln_ rh_ M _ _ _ _ r56.1 r56.2 dL_law_1253
      · have h := h.2 b59
        refine q_aload_n C 0 rfl rfl dL_law_33 ?_
        refine q_iload C 4 rfl dL_law_34 ?_
        obtain ⟨r60, h⟩ := h
        refine q_sld C hX r60 dL_law_36 ?_
        have h := h (gScr_r hX _)
        refine q_bipush C (by decide) dL_law_37 ?_
        refine q_iand C dL_law_39 ?_
        obtain ⟨r61, h⟩ := h
        rcases (show (giand (sx x4) 31 < 0 ∨ 16 < giand (sx x4) 31) ∨ giand (sx x4) 31 = 0 ∨ giand (sx x4) 31 = 1 ∨ giand (sx x4) 31 = 2 ∨ giand (sx x4) 31 = 3 ∨ giand (sx x4) 31 = 4 ∨ giand (sx x4) 31 = 5 ∨ giand (sx x4) 31 = 6 ∨ giand (sx x4) 31 = 7 ∨ giand (sx x4) 31 = 8 ∨ giand (sx x4) 31 = 9 ∨ giand (sx x4) 31 = 10 ∨ giand (sx x4) 31 = 11 ∨ giand (sx x4) 31 = 12 ∨ giand (sx x4) 31 = 13 ∨ giand (sx x4) 31 = 14 ∨ giand (sx x4) 31 = 15 ∨ giand (sx x4) 31 = 16 by omega) with b62 | b62 | b62 | b62 | b62 | b62 | b62 | b62 | b62 | b62 | b62 | b62 | b62 | b62 | b62 | b62 | b62 | b62
        · have h := h.1 b62
          refine q_tswOut (tgt := 1246) C r61 b62 (by decide) dL_law_40 ?_
          exact t1246 (wL_law_23 mc ms  sL sx n) hk23_ kd_ ln_ rh_ c_ s_ kp_ x1 x2 x3 x4 M h
        · have h := h.2.1 b62
          refine q_tswIn (tgt := 124) (off := 84) C r61 (by omega) (by omega) (by rw [b62]; rfl) (by decide) dL_law_40 ?_
          refine q_aload_n C 1 rfl rfl dL_law_124 ?_
          refine q_aload_n C 0 rfl rfl dL_law_125 ?_
          refine q_iload C 4 rfl dL_law_126 ?_
          refine q_iconst C dL_law_128 ?_
          refine q_iadd C dL_law_129 ?_
          obtain ⟨r63, h⟩ := h
          refine q_sld C hX r63 dL_law_130 ?_
          have h := h (gScr_r hX _)
          obtain ⟨mc64, ms65, r71, h⟩ := h
          refine q_callXI (As := [.int (gI (sx (x4 + 1)))]) (st := []) C vL_38 kX6_board r71 ⟨Nat.le_of_ble_eq_true rfl, Nat.le_of_ble_eq_true rfl⟩ rfl r52 ⟨_, _, rfl⟩ (by decide) rfl (Nat.le_of_ble_eq_true rfl) (mX6_board l D cy mc64 ms65 kd_ ln_ rh_ _ x1 (sx (x4 + 1)) M r52 h) dL_law_131 (fun c72 kd66 ln67 rh68 M69 kn70 g73 h => ?_)
          have kp74 := gKp_t kp_ kn70
          rw [← (kn70.2 x3 0 r55).2]
          have h := h g73
          refine q_aload_n C 2 rfl rfl dL_law_134 ?_
          refine q_aload_n C 0 rfl rfl dL_law_135 ?_
          refine q_iload C 4 rfl dL_law_136 ?_
          refine q_iconst C dL_law_138 ?_
          refine q_iadd C dL_law_139 ?_
          refine q_sld C hX r63 dL_law_140 ?_
          refine q_callVI (As := [.int (gI (sx (x4 + 1)))]) (st := [.int (gI c72)]) C vL_42 kX7_board r71 ⟨Nat.le_of_ble_eq_true rfl, Nat.le_of_ble_eq_true rfl⟩ rfl (gKp_k kn70 r53 (by decide)) ⟨_, _, rfl⟩ (by decide) rfl (Nat.le_of_ble_eq_true rfl) (mX7_board l D cy kd66 ln67 rh68 _ x2 (sx (x4 + 1)) M69 (gKp_k kn70 r53 (by decide)) h) dL_law_141 (fun c76 M75 g77 h => ?_)
          have h := h g77
          refine q_icmp_eq (tgt := 1246) C g73 g77 (by decide) dL_law_144 (fun b78 => ?_) (fun b78 => ?_)
          · have h := h.1 b78
            exact t1246 (wL_law_23 mc ms  sL sx n) hk23_ kd66 ln67 rh68 (c_ + mc64) (s_ + ms65) kp74 x1 x2 x3 x4 M75 h
          · have h := h.2 b78
            refine q_iconst C dL_law_147 ?_
            exact h.elim
        · have h := h.2.2.1 b62
          refine q_tswIn (tgt := 149) (off := 109) C r61 (by omega) (by omega) (by rw [b62]; rfl) (by decide) dL_law_40 ?_
          refine q_aload_n C 1 rfl rfl dL_law_149 ?_
          refine q_aload_n C 0 rfl rfl dL_law_150 ?_
          refine q_iload C 4 rfl dL_law_151 ?_
          refine q_iconst C dL_law_153 ?_
          refine q_iadd C dL_law_154 ?_
          obtain ⟨r79, h⟩ := h
          refine q_sld C hX r79 dL_law_155 ?_
          have h := h (gScr_r hX _)
          obtain ⟨mc80, ms81, r87, h⟩ := h
          refine q_callXI (As := [.int (gI (sx (x4 + 1)))]) (st := []) C vL_43 kX6_make r87 ⟨Nat.le_of_ble_eq_true rfl, Nat.le_of_ble_eq_true rfl⟩ rfl r52 ⟨_, _, rfl⟩ (by decide) rfl (Nat.le_of_ble_eq_true rfl) (mX6_make l D cy mc80 ms81 kd_ ln_ rh_ _ x1 (sx (x4 + 1)) M r52 h) dL_law_156 (fun c88 kd82 ln83 rh84 M85 kn86 g89 h => ?_)
          have kp90 := gKp_t kp_ kn86
          rw [← (kn86.2 x3 0 r55).2]
          have h := h g89
          refine q_aload_n C 2 rfl rfl dL_law_159 ?_
          refine q_aload_n C 0 rfl rfl dL_law_160 ?_
          refine q_iload C 4 rfl dL_law_161 ?_
          refine q_iconst C dL_law_163 ?_
          refine q_iadd C dL_law_164 ?_
          refine q_sld C hX r79 dL_law_165 ?_
          refine q_callVI (As := [.int (gI (sx (x4 + 1)))]) (st := [.int (gI c88)]) C vL_47 kX7_make r87 ⟨Nat.le_of_ble_eq_true rfl, Nat.le_of_ble_eq_true rfl⟩ rfl (gKp_k kn86 r53 (by decide)) ⟨_, _, rfl⟩ (by decide) rfl (Nat.le_of_ble_eq_true rfl) (mX7_make l D cy kd82 ln83 rh84 _ x2 (sx (x4 + 1)) M85 (gKp_k kn86 r53 (by decide)) h) dL_law_166 (fun c92 M91 g93 h => ?_)
          have h := h g93
          refine q_icmp_eq (tgt := 1246) C g89 g93 (by decide) dL_law_169 (fun b94 => ?_) (fun b94 => ?_)
          · have h := h.1 b94
            exact t1246 (wL_law_23 mc ms  sL sx n) hk23_ kd82 ln83 rh84 (c_ + mc80) (s_ + ms81) kp90 x1 x2 x3 x4 M91 h
          · have h := h.2 b94
            refine q_iconst C dL_law_172 ?_
            exact h.elim
        · have h := h.2.2.2.1 b62
          refine q_tswIn (tgt := 174) (off := 134) C r61 (by omega) (by omega) (by rw [b62]; rfl) (by decide) dL_law_40 ?_
          refine q_aload_n C 1 rfl rfl dL_law_174 ?_
          refine q_aload_n C 0 rfl rfl dL_law_175 ?_
          refine q_iload C 4 rfl dL_law_176 ?_
          refine q_iconst C dL_law_178 ?_
          refine q_iadd C dL_law_179 ?_
          obtain ⟨r95, h⟩ := h
          refine q_sld C hX r95 dL_law_180 ?_
          have h := h (gScr_r hX _)
          refine q_aload_n C 0 rfl rfl dL_law_181 ?_
          refine q_iload C 4 rfl dL_law_182 ?_
          refine q_iconst C dL_law_184 ?_
          refine q_iadd C dL_law_185 ?_
          obtain ⟨r96, h⟩ := h
          refine q_sld C hX r96 dL_law_186 ?_
          have h := h (gScr_r hX _)
          refine q_aload_n C 0 rfl rfl dL_law_187 ?_
          refine q_iload C 4 rfl dL_law_188 ?_
          refine q_iconst C dL_law_190 ?_
          refine q_iadd C dL_law_191 ?_
          obtain ⟨r97, h⟩ := h
          refine q_sld C hX r97 dL_law_192 ?_
          have h := h (gScr_r hX _)
          refine q_aload_n C 0 rfl rfl dL_law_193 ?_
          refine q_iload C 4 rfl dL_law_194 ?_
          refine q_iconst C dL_law_196 ?_
          refine q_iadd C dL_law_197 ?_
          obtain ⟨r98, h⟩ := h
          refine q_sld C hX r98 dL_law_198 ?_
          have h := h (gScr_r hX _)
          refine q_aload_n C 0 rfl rfl dL_law_199 ?_
          refine q_iload C 4 rfl dL_law_200 ?_
          refine q_iconst C dL_law_202 ?_
          refine q_iadd C dL_law_203 ?_
          obtain ⟨r99, h⟩ := h
          refine q_sld C hX r99 dL_law_204 ?_
          have h := h (gScr_r hX _)
          refine q_callVI (As := [.int (gI (sx (x4 + 1))), .int (gI (sx (x4 + 2))), .int (gI (sx (x4 + 3))), .int (gI (sx (x4 + 4))), .int (gI (sx (x4 + 5)))]) (st := []) C vL_48 kX6_isLegal r56 ⟨Nat.le_of_ble_eq_true rfl, Nat.le_of_ble_eq_true rfl⟩ rfl r52 ⟨_, _, rfl⟩ (by decide) rfl (Nat.le_of_ble_eq_true rfl) (mX6_isLegal l D cy kd_ ln_ rh_ _ x1 (sx (x4 + 1)) (sx (x4 + 2)) (sx (x4 + 3)) (sx (x4 + 4)) (sx (x4 + 5)) M r52 h) dL_law_205 (fun c101 M100 g102 h => ?_)
          have h := h g102
          refine q_aload_n C 2 rfl rfl dL_law_208 ?_
          refine q_aload_n C 0 rfl rfl dL_law_209 ?_
          refine q_iload C 4 rfl dL_law_210 ?_
          refine q_iconst C dL_law_212 ?_
          refine q_iadd C dL_law_213 ?_
          refine q_sld C hX r95 dL_law_214 ?_
          refine q_aload_n C 0 rfl rfl dL_law_215 ?_
          refine q_iload C 4 rfl dL_law_216 ?_
          refine q_iconst C dL_law_218 ?_
          refine q_iadd C dL_law_219 ?_
          refine q_sld C hX r96 dL_law_220 ?_
          refine q_aload_n C 0 rfl rfl dL_law_221 ?_
          refine q_iload C 4 rfl dL_law_222 ?_
          refine q_iconst C dL_law_224 ?_
          refine q_iadd C dL_law_225 ?_
          refine q_sld C hX r97 dL_law_226 ?_
          refine q_aload_n C 0 rfl rfl dL_law_227 ?_
          refine q_iload C 4 rfl dL_law_228 ?_
          refine q_iconst C dL_law_230 ?_
          refine q_iadd C dL_law_231 ?_
          refine q_sld C hX r98 dL_law_232 ?_
          refine q_aload_n C 0 rfl rfl dL_law_233 ?_
          refine q_iload C 4 rfl dL_law_234 ?_
          refine q_iconst C dL_law_236 ?_
          refine q_iadd C dL_law_237 ?_
          refine q_sld C hX r99 dL_law_238 ?_
          refine q_callVI (As := [.int (gI (sx (x4 + 1))), .int (gI (sx (x4 + 2))), .int (gI (sx (x4 + 3))), .int (gI (sx (x4 + 4))), .int (gI (sx (x4 + 5)))]) (st := [.int (gI c101)]) C vL_52 kX7_isLegal r56 ⟨Nat.le_of_ble_eq_true rfl, Nat.le_of_ble_eq_true rfl⟩ rfl r53 ⟨_, _, rfl⟩ (by decide) rfl (Nat.le_of_ble_eq_true rfl) (mX7_isLegal l D cy kd_ ln_ rh_ _ x2 (sx (x4 + 1)) (sx (x4 + 2)) (sx (x4 + 3)) (sx (x4 + 4)) (sx (x4 + 5)) M100 r53 h) dL_law_239 (fun c104 M103 g105 h => ?_)
          have h := h g105
          refine q_icmp_eq (tgt := 1246) C g102 g105 (by decide) dL_law_242 (fun b106 => ?_) (fun b106 => ?_)
          · have h := h.1 b106
            exact t1246 (wL_law_23 mc ms  sL sx n) hk23_ kd_ ln_ rh_ c_ s_ kp_ x1 x2 x3 x4 M103 h
          · have h := h.2 b106
            refine q_iconst C dL_law_245 ?_
            exact h.elim
        · have h := h.2.2.2.2.1 b62
          refine q_tswIn (tgt := 247) (off := 207) C r61 (by omega) (by omega) (by rw [b62]; rfl) (by decide) dL_law_40 ?_
          refine q_aload_n C 1 rfl rfl dL_law_247 ?_
          refine q_aload_n C 0 rfl rfl dL_law_248 ?_
          refine q_iload C 4 rfl dL_law_249 ?_
          refine q_iconst C dL_law_251 ?_
          refine q_iadd C dL_law_252 ?_
          obtain ⟨r107, h⟩ := h
          refine q_sld C hX r107 dL_law_253 ?_
          have h := h (gScr_r hX _)
          refine q_aload_n C 0 rfl rfl dL_law_254 ?_
          refine q_iload C 4 rfl dL_law_255 ?_
          refine q_iconst C dL_law_257 ?_
          refine q_iadd C dL_law_258 ?_
          obtain ⟨r108, h⟩ := h
          refine q_sld C hX r108 dL_law_259 ?_
          have h := h (gScr_r hX _)
          refine q_aload_n C 0 rfl rfl dL_law_260 ?_
          refine q_iload C 4 rfl dL_law_261 ?_
          refine q_iconst C dL_law_263 ?_
          refine q_iadd C dL_law_264 ?_
          obtain ⟨r109, h⟩ := h
          refine q_sld C hX r109 dL_law_265 ?_
          have h := h (gScr_r hX _)
          refine q_aload_n C 0 rfl rfl dL_law_266 ?_
          refine q_iload C 4 rfl dL_law_267 ?_
          refine q_iconst C dL_law_269 ?_
          refine q_iadd C dL_law_270 ?_
          obtain ⟨r110, h⟩ := h
          refine q_sld C hX r110 dL_law_271 ?_
          have h := h (gScr_r hX _)
          refine q_aload_n C 0 rfl rfl dL_law_272 ?_
          refine q_iload C 4 rfl dL_law_273 ?_
          refine q_iconst C dL_law_275 ?_
          refine q_iadd C dL_law_276 ?_
          obtain ⟨r111, h⟩ := h
          refine q_sld C hX r111 dL_law_277 ?_
          have h := h (gScr_r hX _)
          refine q_callVI (As := [.int (gI (sx (x4 + 1))), .int (gI (sx (x4 + 2))), .int (gI (sx (x4 + 3))), .int (gI (sx (x4 + 4))), .int (gI (sx (x4 + 5)))]) (st := []) C vL_53 kX6_moves r56 ⟨Nat.le_of_ble_eq_true rfl, Nat.le_of_ble_eq_true rfl⟩ rfl r52 ⟨_, _, rfl⟩ (by decide) rfl (Nat.le_of_ble_eq_true rfl) (mX6_moves l D cy kd_ ln_ rh_ _ x1 (sx (x4 + 1)) (sx (x4 + 2)) (sx (x4 + 3)) (sx (x4 + 4)) (sx (x4 + 5)) M r52 h) dL_law_278 (fun c113 M112 g114 h => ?_)
          have h := h g114
          refine q_aload_n C 2 rfl rfl dL_law_281 ?_
          refine q_aload_n C 0 rfl rfl dL_law_282 ?_
          refine q_iload C 4 rfl dL_law_283 ?_
          refine q_iconst C dL_law_285 ?_
          refine q_iadd C dL_law_286 ?_
          refine q_sld C hX r107 dL_law_287 ?_
          refine q_aload_n C 0 rfl rfl dL_law_288 ?_
          refine q_iload C 4 rfl dL_law_289 ?_
          refine q_iconst C dL_law_291 ?_
          refine q_iadd C dL_law_292 ?_
          refine q_sld C hX r108 dL_law_293 ?_
          refine q_aload_n C 0 rfl rfl dL_law_294 ?_
          refine q_iload C 4 rfl dL_law_295 ?_
          refine q_iconst C dL_law_297 ?_
          refine q_iadd C dL_law_298 ?_
          refine q_sld C hX r109 dL_law_299 ?_
          refine q_aload_n C 0 rfl rfl dL_law_300 ?_
          refine q_iload C 4 rfl dL_law_301 ?_
          refine q_iconst C dL_law_303 ?_
          refine q_iadd C dL_law_304 ?_
          refine q_sld C hX r110 dL_law_305 ?_
          refine q_aload_n C 0 rfl rfl dL_law_306 ?_
          refine q_iload C 4 rfl dL_law_307 ?_
          refine q_iconst C dL_law_309 ?_
          refine q_iadd C dL_law_310 ?_
          refine q_sld C hX r111 dL_law_311 ?_
          refine q_callVI (As := [.int (gI (sx (x4 + 1))), .int (gI (sx (x4 + 2))), .int (gI (sx (x4 + 3))), .int (gI (sx (x4 + 4))), .int (gI (sx (x4 + 5)))]) (st := [.int (gI c113)]) C vL_56 kX7_moves r56 ⟨Nat.le_of_ble_eq_true rfl, Nat.le_of_ble_eq_true rfl⟩ rfl r53 ⟨_, _, rfl⟩ (by decide) rfl (Nat.le_of_ble_eq_true rfl) (mX7_moves l D cy kd_ ln_ rh_ _ x2 (sx (x4 + 1)) (sx (x4 + 2)) (sx (x4 + 3)) (sx (x4 + 4)) (sx (x4 + 5)) M112 r53 h) dL_law_312 (fun c116 M115 g117 h => ?_)
          have h := h g117
          refine q_icmp_eq (tgt := 1246) C g114 g117 (by decide) dL_law_315 (fun b118 => ?_) (fun b118 => ?_)
          · have h := h.1 b118
            exact t1246 (wL_law_23 mc ms  sL sx n) hk23_ kd_ ln_ rh_ c_ s_ kp_ x1 x2 x3 x4 M115 h
          · have h := h.2 b118
            refine q_iconst C dL_law_318 ?_
            exact h.elim
        · have h := h.2.2.2.2.2.1 b62
          refine q_tswIn (tgt := 320) (off := 280) C r61 (by omega) (by omega) (by rw [b62]; rfl) (by decide) dL_law_40 ?_
          refine q_aload_n C 1 rfl rfl dL_law_320 ?_
          refine q_aload_n C 0 rfl rfl dL_law_321 ?_
          refine q_iload C 4 rfl dL_law_322 ?_
          refine q_iconst C dL_law_324 ?_
          refine q_iadd C dL_law_325 ?_
          obtain ⟨r119, h⟩ := h
          refine q_sld C hX r119 dL_law_326 ?_
          have h := h (gScr_r hX _)
          refine q_aload_n C 0 rfl rfl dL_law_327 ?_
          refine q_iload C 4 rfl dL_law_328 ?_
          refine q_iconst C dL_law_330 ?_
          refine q_iadd C dL_law_331 ?_
          obtain ⟨r120, h⟩ := h
          refine q_sld C hX r120 dL_law_332 ?_
          have h := h (gScr_r hX _)
          refine q_aload_n C 0 rfl rfl dL_law_333 ?_
          refine q_iload C 4 rfl dL_law_334 ?_
          refine q_iconst C dL_law_336 ?_
          refine q_iadd C dL_law_337 ?_
          obtain ⟨r121, h⟩ := h
          refine q_sld C hX r121 dL_law_338 ?_
          have h := h (gScr_r hX _)
          refine q_aload_n C 0 rfl rfl dL_law_339 ?_
          refine q_iload C 4 rfl dL_law_340 ?_
          refine q_iconst C dL_law_342 ?_
          refine q_iadd C dL_law_343 ?_
          obtain ⟨r122, h⟩ := h
          refine q_sld C hX r122 dL_law_344 ?_
          have h := h (gScr_r hX _)
          refine q_aload_n C 0 rfl rfl dL_law_345 ?_
          refine q_iload C 4 rfl dL_law_346 ?_
          refine q_iconst C dL_law_348 ?_
          refine q_iadd C dL_law_349 ?_
          obtain ⟨r123, h⟩ := h
          refine q_sld C hX r123 dL_law_350 ?_
          have h := h (gScr_r hX _)
          refine q_aload_n C 3 rfl rfl dL_law_351 ?_
          obtain ⟨r124, h⟩ := h
          refine q_callHI (As := [.ref (gad x1), .int (gI (sx (x4 + 1))), .int (gI (sx (x4 + 2))), .int (gI (sx (x4 + 3))), .int (gI (sx (x4 + 4))), .int (gI (sx (x4 + 5))), .ref (rh_ x3 0)]) (st := []) C vL_57 kL_distance r124 ⟨Nat.le_of_ble_eq_true rfl, Nat.le_of_ble_eq_true rfl⟩ rfl rfl (Nat.le_of_ble_eq_true rfl) (mL_distance l D cy kd_ ln_ rh_ _ x1 (sx (x4 + 1)) (sx (x4 + 2)) (sx (x4 + 3)) (sx (x4 + 4)) (sx (x4 + 5)) x3 0 M hst r52 (by rw [r54]; rfl) (fun _ q => by rw [r54]; exact q) h) dL_law_352 (fun c126 M125 g127 h => ?_)
          have h := h g127
          refine q_istore (lv' := [(5, .int (gI c126)), (0, .ref b9), (1, .ref (gad x1)), (2, .ref (gad x2)), (3, .ref (rh_ x3 0)), (4, .int (gI x4))]) C (by decide) rfl dL_law_355 ?_
          refine q_aload_n C 3 rfl rfl dL_law_357 ?_
          refine q_aload_n C 1 rfl rfl dL_law_358 ?_
          refine q_iload C 5 rfl dL_law_359 ?_
          refine q_iconst C dL_law_361 ?_
          refine q_iadd C dL_law_362 ?_
          refine q_sld C hX r119 dL_law_363 ?_
          refine q_aload_n C 1 rfl rfl dL_law_364 ?_
          refine q_iload C 5 rfl dL_law_365 ?_
          refine q_iconst C dL_law_367 ?_
          refine q_iadd C dL_law_368 ?_
          refine q_sld C hX r120 dL_law_369 ?_
          refine q_aload_n C 1 rfl rfl dL_law_370 ?_
          refine q_iload C 5 rfl dL_law_371 ?_
          refine q_iconst C dL_law_373 ?_
          refine q_iadd C dL_law_374 ?_
          refine q_sld C hX r121 dL_law_375 ?_
          refine q_aload_n C 1 rfl rfl dL_law_376 ?_
          refine q_iload C 5 rfl dL_law_377 ?_
          refine q_iconst C dL_law_379 ?_
          refine q_iadd C dL_law_380 ?_
          refine q_sld C hX r122 dL_law_381 ?_
          refine q_aload_n C 1 rfl rfl dL_law_382 ?_
          refine q_iload C 5 rfl dL_law_383 ?_
          refine q_iconst C dL_law_385 ?_
          refine q_iadd C dL_law_386 ?_
          refine q_sld C hX r123 dL_law_387 ?_
          refine q_callVI (As := [.int (gI (sx (x4 + 1))), .int (gI (sx (x4 + 2))), .int (gI (sx (x4 + 3))), .int (gI (sx (x4 + 4))), .int (gI (sx (x4 + 5)))]) (st := []) C vL_62 kX7_distance r124 ⟨Nat.le_of_ble_eq_true rfl, Nat.le_of_ble_eq_true rfl⟩ rfl r53 ⟨_, _, rfl⟩ (by decide) rfl (Nat.le_of_ble_eq_true rfl) (mX7_distance l D cy kd_ ln_ rh_ _ x2 (sx (x4 + 1)) (sx (x4 + 2)) (sx (x4 + 3)) (sx (x4 + 4)) (sx (x4 + 5)) M125 r53 h) dL_law_388 (fun c129 M128 g130 h => ?_)
          have h := h g130
          refine q_istore (lv' := [(6, .int (gI c129)), (5, .int (gI c126)), (0, .ref b9), (1, .ref (gad x1)), (2, .ref (gad x2)), (3, .ref (rh_ x3 0)), (4, .int (gI x4))]) C (by decide) rfl dL_law_391 ?_
          refine q_aload_n C 4 rfl rfl dL_law_393 ?_
          refine q_callVI (As := []) (st := []) C vL_63 kX7_thrown r124 ⟨Nat.le_of_ble_eq_true rfl, Nat.le_of_ble_eq_true rfl⟩ rfl r53 ⟨_, _, rfl⟩ (by decide) rfl (Nat.le_of_ble_eq_true rfl) (mX7_thrown l D cy kd_ ln_ rh_ _ x2 M128 r53 h) dL_law_394 (fun c132 M131 g133 h => ?_)
          have h := h g133
          refine q_iload C 1 rfl dL_law_397 ?_
          refine q_icmp_eq (tgt := 404) C g133 g127 (by decide) dL_law_399 (fun b134 => ?_) (fun b134 => ?_)
          · have h := h.1 b134
            refine q_iload C 1 rfl dL_law_404 ?_
            refine q_if_ne (tgt := 421) C g127 (by decide) dL_law_406 (fun b135 => ?_) (fun b135 => ?_)
            · have h := h.1 b135
              refine q_lv (lv' := [(0, .ref b9), (1, .ref (gad x1)), (2, .ref (gad x2)), (3, .ref (rh_ x3 0)), (4, .int (gI x4))]) [2, 3, 4, 5, 6] rfl ?_
              exact t421 (wL_law_23 mc ms  sL sx n) hk23_ kd_ ln_ rh_ (c_ + 1) (s_ + 6) kp_ x1 x2 x3 x4 M131 h
            · have h := h.2 b135
              refine q_aload_n C 5 rfl rfl dL_law_409 ?_
              refine q_iconst C dL_law_410 ?_
              obtain ⟨r136, h⟩ := h
              refine q_lald C r54 rfl (fun _ q => q) r136 dL_law_411 (fun g137 => ?_)
              have h := h g137
              refine q_iload C 0 rfl dL_law_412 ?_
              refine q_i2l C g130 dL_law_414 ?_
              refine q_lcmp C dL_law_415 ?_
              refine q_if_eq (tgt := 421) C (rng_of _) (by decide) dL_law_416 (fun b138 => ?_) (fun b138 => ?_)
              · have h := h.1 b138
                refine q_lv (lv' := [(0, .ref b9), (1, .ref (gad x1)), (2, .ref (gad x2)), (3, .ref (rh_ x3 0)), (4, .int (gI x4))]) [2, 3, 4, 5, 6] rfl ?_
                exact t421 (wL_law_23 mc ms  sL sx n) hk23_ kd_ ln_ rh_ (c_ + 1) (s_ + 6) kp_ x1 x2 x3 x4 M131 h
              · have h := h.2 b138
                refine q_iconst C dL_law_419 ?_
                exact h.elim
          · have h := h.2 b134
            refine q_iconst C dL_law_402 ?_
            exact h.elim
        · have h := h.2.2.2.2.2.2.1 b62
          refine q_tswIn (tgt := 424) (off := 384) C r61 (by omega) (by omega) (by rw [b62]; rfl) (by decide) dL_law_40 ?_
          refine q_aload_n C 1 rfl rfl dL_law_424 ?_
          refine q_aload_n C 0 rfl rfl dL_law_425 ?_
          refine q_iload C 4 rfl dL_law_426 ?_
          refine q_iconst C dL_law_428 ?_
          refine q_iadd C dL_law_429 ?_
          obtain ⟨r139, h⟩ := h
          refine q_sld C hX r139 dL_law_430 ?_
          have h := h (gScr_r hX _)
          refine q_aload_n C 0 rfl rfl dL_law_431 ?_
          refine q_iload C 4 rfl dL_law_432 ?_
          refine q_iconst C dL_law_434 ?_
          refine q_iadd C dL_law_435 ?_
          obtain ⟨r140, h⟩ := h
          refine q_sld C hX r140 dL_law_436 ?_
          have h := h (gScr_r hX _)
          refine q_aload_n C 0 rfl rfl dL_law_437 ?_
          refine q_iload C 4 rfl dL_law_438 ?_
          refine q_iconst C dL_law_440 ?_
          refine q_iadd C dL_law_441 ?_
          obtain ⟨r141, h⟩ := h
          refine q_sld C hX r141 dL_law_442 ?_
          have h := h (gScr_r hX _)
          refine q_aload_n C 0 rfl rfl dL_law_443 ?_
          refine q_iload C 4 rfl dL_law_444 ?_
          refine q_iconst C dL_law_446 ?_
          refine q_iadd C dL_law_447 ?_
          obtain ⟨r142, h⟩ := h
          refine q_sld C hX r142 dL_law_448 ?_
          have h := h (gScr_r hX _)
          refine q_aload_n C 0 rfl rfl dL_law_449 ?_
          refine q_iload C 4 rfl dL_law_450 ?_
          refine q_iconst C dL_law_452 ?_
          refine q_iadd C dL_law_453 ?_
          obtain ⟨r143, h⟩ := h
          refine q_sld C hX r143 dL_law_454 ?_
          have h := h (gScr_r hX _)
          refine q_aload_n C 3 rfl rfl dL_law_455 ?_
          obtain ⟨r144, h⟩ := h
          refine q_callHI (As := [.ref (gad x1), .int (gI (sx (x4 + 1))), .int (gI (sx (x4 + 2))), .int (gI (sx (x4 + 3))), .int (gI (sx (x4 + 4))), .int (gI (sx (x4 + 5))), .ref (rh_ x3 0)]) (st := []) C vL_67 kL_best r144 ⟨Nat.le_of_ble_eq_true rfl, Nat.le_of_ble_eq_true rfl⟩ rfl rfl (Nat.le_of_ble_eq_true rfl) (mL_best l D cy kd_ ln_ rh_ _ x1 (sx (x4 + 1)) (sx (x4 + 2)) (sx (x4 + 3)) (sx (x4 + 4)) (sx (x4 + 5)) x3 0 M hst r52 (by rw [r54]; rfl) (fun _ q => by rw [r54]; exact q) h) dL_law_456 (fun c146 M145 g147 h => ?_)
          have h := h g147
          refine q_istore (lv' := [(5, .int (gI c146)), (0, .ref b9), (1, .ref (gad x1)), (2, .ref (gad x2)), (3, .ref (rh_ x3 0)), (4, .int (gI x4))]) C (by decide) rfl dL_law_459 ?_
          refine q_aload_n C 3 rfl rfl dL_law_461 ?_
          refine q_aload_n C 1 rfl rfl dL_law_462 ?_
          refine q_iload C 5 rfl dL_law_463 ?_
          refine q_iconst C dL_law_465 ?_
          refine q_iadd C dL_law_466 ?_
          refine q_sld C hX r139 dL_law_467 ?_
          refine q_aload_n C 1 rfl rfl dL_law_468 ?_
          refine q_iload C 5 rfl dL_law_469 ?_
          refine q_iconst C dL_law_471 ?_
          refine q_iadd C dL_law_472 ?_
          refine q_sld C hX r140 dL_law_473 ?_
          refine q_aload_n C 1 rfl rfl dL_law_474 ?_
          refine q_iload C 5 rfl dL_law_475 ?_
          refine q_iconst C dL_law_477 ?_
          refine q_iadd C dL_law_478 ?_
          refine q_sld C hX r141 dL_law_479 ?_
          refine q_aload_n C 1 rfl rfl dL_law_480 ?_
          refine q_iload C 5 rfl dL_law_481 ?_
          refine q_iconst C dL_law_483 ?_
          refine q_iadd C dL_law_484 ?_
          refine q_sld C hX r142 dL_law_485 ?_
          refine q_aload_n C 1 rfl rfl dL_law_486 ?_
          refine q_iload C 5 rfl dL_law_487 ?_
          refine q_iconst C dL_law_489 ?_
          refine q_iadd C dL_law_490 ?_
          refine q_sld C hX r143 dL_law_491 ?_
          refine q_callVI (As := [.int (gI (sx (x4 + 1))), .int (gI (sx (x4 + 2))), .int (gI (sx (x4 + 3))), .int (gI (sx (x4 + 4))), .int (gI (sx (x4 + 5)))]) (st := []) C vL_69 kX7_best r144 ⟨Nat.le_of_ble_eq_true rfl, Nat.le_of_ble_eq_true rfl⟩ rfl r53 ⟨_, _, rfl⟩ (by decide) rfl (Nat.le_of_ble_eq_true rfl) (mX7_best l D cy kd_ ln_ rh_ _ x2 (sx (x4 + 1)) (sx (x4 + 2)) (sx (x4 + 3)) (sx (x4 + 4)) (sx (x4 + 5)) M145 r53 h) dL_law_492 (fun c149 M148 g150 h => ?_)
          have h := h g150
          refine q_istore (lv' := [(6, .int (gI c149)), (5, .int (gI c146)), (0, .ref b9), (1, .ref (gad x1)), (2, .ref (gad x2)), (3, .ref (rh_ x3 0)), (4, .int (gI x4))]) C (by decide) rfl dL_law_495 ?_
          refine q_aload_n C 4 rfl rfl dL_law_497 ?_
          refine q_callVI (As := []) (st := []) C vL_63 kX7_thrown r144 ⟨Nat.le_of_ble_eq_true rfl, Nat.le_of_ble_eq_true rfl⟩ rfl r53 ⟨_, _, rfl⟩ (by decide) rfl (Nat.le_of_ble_eq_true rfl) (mX7_thrown l D cy kd_ ln_ rh_ _ x2 M148 r53 h) dL_law_498 (fun c152 M151 g153 h => ?_)
          have h := h g153
          refine q_iload C 1 rfl dL_law_501 ?_
          refine q_icmp_eq (tgt := 508) C g153 g147 (by decide) dL_law_503 (fun b154 => ?_) (fun b154 => ?_)
          · have h := h.1 b154
            refine q_iload C 1 rfl dL_law_508 ?_
            refine q_if_ne (tgt := 525) C g147 (by decide) dL_law_510 (fun b155 => ?_) (fun b155 => ?_)
            · have h := h.1 b155
              refine q_lv (lv' := [(0, .ref b9), (1, .ref (gad x1)), (2, .ref (gad x2)), (3, .ref (rh_ x3 0)), (4, .int (gI x4))]) [2, 3, 4, 5, 6] rfl ?_
              exact t525 (wL_law_23 mc ms  sL sx n) hk23_ kd_ ln_ rh_ (c_ + 1) (s_ + 6) kp_ x1 x2 x3 x4 M151 h
            · have h := h.2 b155
              refine q_aload_n C 5 rfl rfl dL_law_513 ?_
              refine q_iconst C dL_law_514 ?_
              obtain ⟨r156, h⟩ := h
              refine q_lald C r54 rfl (fun _ q => q) r156 dL_law_515 (fun g157 => ?_)
              have h := h g157
              refine q_iload C 0 rfl dL_law_516 ?_
              refine q_i2l C g150 dL_law_518 ?_
              refine q_lcmp C dL_law_519 ?_
              refine q_if_eq (tgt := 525) C (rng_of _) (by decide) dL_law_520 (fun b158 => ?_) (fun b158 => ?_)
              · have h := h.1 b158
                refine q_lv (lv' := [(0, .ref b9), (1, .ref (gad x1)), (2, .ref (gad x2)), (3, .ref (rh_ x3 0)), (4, .int (gI x4))]) [2, 3, 4, 5, 6] rfl ?_
                exact t525 (wL_law_23 mc ms  sL sx n) hk23_ kd_ ln_ rh_ (c_ + 1) (s_ + 6) kp_ x1 x2 x3 x4 M151 h
              · have h := h.2 b158
                refine q_iconst C dL_law_523 ?_
                exact h.elim
          · have h := h.2 b154
            refine q_iconst C dL_law_506 ?_
            exact h.elim
        · have h := h.2.2.2.2.2.2.2.1 b62
          refine q_tswIn (tgt := 528) (off := 488) C r61 (by omega) (by omega) (by rw [b62]; rfl) (by decide) dL_law_40 ?_
          refine q_aload_n C 1 rfl rfl dL_law_528 ?_
          refine q_aload_n C 0 rfl rfl dL_law_529 ?_
          refine q_iload C 4 rfl dL_law_530 ?_
          refine q_iconst C dL_law_532 ?_
          refine q_iadd C dL_law_533 ?_
          obtain ⟨r159, h⟩ := h
          refine q_sld C hX r159 dL_law_534 ?_
          have h := h (gScr_r hX _)
          refine q_aload_n C 0 rfl rfl dL_law_535 ?_
          refine q_iload C 4 rfl dL_law_536 ?_
          refine q_iconst C dL_law_538 ?_
          refine q_iadd C dL_law_539 ?_
          obtain ⟨r160, h⟩ := h
          refine q_sld C hX r160 dL_law_540 ?_
          have h := h (gScr_r hX _)
          refine q_callVI (As := [.int (gI (sx (x4 + 1))), .int (gI (sx (x4 + 2)))]) (st := []) C vL_70 kX6_move r56 ⟨Nat.le_of_ble_eq_true rfl, Nat.le_of_ble_eq_true rfl⟩ rfl r52 ⟨_, _, rfl⟩ (by decide) rfl (Nat.le_of_ble_eq_true rfl) (mX6_move l D cy kd_ ln_ rh_ _ x1 (sx (x4 + 1)) (sx (x4 + 2)) M r52 h) dL_law_541 (fun c162 M161 g163 h => ?_)
          have h := h g163
          refine q_aload_n C 2 rfl rfl dL_law_544 ?_
          refine q_aload_n C 0 rfl rfl dL_law_545 ?_
          refine q_iload C 4 rfl dL_law_546 ?_
          refine q_iconst C dL_law_548 ?_
          refine q_iadd C dL_law_549 ?_
          refine q_sld C hX r159 dL_law_550 ?_
          refine q_aload_n C 0 rfl rfl dL_law_551 ?_
          refine q_iload C 4 rfl dL_law_552 ?_
          refine q_iconst C dL_law_554 ?_
          refine q_iadd C dL_law_555 ?_
          refine q_sld C hX r160 dL_law_556 ?_
          refine q_callVI (As := [.int (gI (sx (x4 + 1))), .int (gI (sx (x4 + 2)))]) (st := [.int (gI c162)]) C vL_74 kX7_move r56 ⟨Nat.le_of_ble_eq_true rfl, Nat.le_of_ble_eq_true rfl⟩ rfl r53 ⟨_, _, rfl⟩ (by decide) rfl (Nat.le_of_ble_eq_true rfl) (mX7_move l D cy kd_ ln_ rh_ _ x2 (sx (x4 + 1)) (sx (x4 + 2)) M161 r53 h) dL_law_557 (fun c165 M164 g166 h => ?_)
          have h := h g166
          refine q_icmp_eq (tgt := 1246) C g163 g166 (by decide) dL_law_560 (fun b167 => ?_) (fun b167 => ?_)
          · have h := h.1 b167
            exact t1246 (wL_law_23 mc ms  sL sx n) hk23_ kd_ ln_ rh_ c_ s_ kp_ x1 x2 x3 x4 M164 h
          · have h := h.2 b167
            refine q_iconst C dL_law_563 ?_
            exact h.elim
        · have h := h.2.2.2.2.2.2.2.2.1 b62
          refine q_tswIn (tgt := 565) (off := 525) C r61 (by omega) (by omega) (by rw [b62]; rfl) (by decide) dL_law_40 ?_
          refine q_aload_n C 1 rfl rfl dL_law_565 ?_
          refine q_aload_n C 0 rfl rfl dL_law_566 ?_
          refine q_iload C 4 rfl dL_law_567 ?_
          refine q_iconst C dL_law_569 ?_
          refine q_iadd C dL_law_570 ?_
          obtain ⟨r168, h⟩ := h
          refine q_sld C hX r168 dL_law_571 ?_
          have h := h (gScr_r hX _)
          refine q_aload_n C 0 rfl rfl dL_law_572 ?_
          refine q_iload C 4 rfl dL_law_573 ?_
          refine q_iconst C dL_law_575 ?_
          refine q_iadd C dL_law_576 ?_
          obtain ⟨r169, h⟩ := h
          refine q_sld C hX r169 dL_law_577 ?_
          have h := h (gScr_r hX _)
          refine q_aload_n C 0 rfl rfl dL_law_578 ?_
          refine q_iload C 4 rfl dL_law_579 ?_
          refine q_iconst C dL_law_581 ?_
          refine q_iadd C dL_law_582 ?_
          obtain ⟨r170, h⟩ := h
          refine q_sld C hX r170 dL_law_583 ?_
          have h := h (gScr_r hX _)
          refine q_aload_n C 0 rfl rfl dL_law_584 ?_
          refine q_iload C 4 rfl dL_law_585 ?_
          refine q_iconst C dL_law_587 ?_
          refine q_iadd C dL_law_588 ?_
          obtain ⟨r171, h⟩ := h
          refine q_sld C hX r171 dL_law_589 ?_
          have h := h (gScr_r hX _)
          refine q_aload_n C 0 rfl rfl dL_law_590 ?_
          refine q_iload C 4 rfl dL_law_591 ?_
          refine q_iconst C dL_law_593 ?_
          refine q_iadd C dL_law_594 ?_
          obtain ⟨r172, h⟩ := h
          refine q_sld C hX r172 dL_law_595 ?_
          have h := h (gScr_r hX _)
          refine q_aload_n C 3 rfl rfl dL_law_596 ?_
          obtain ⟨r173, h⟩ := h
          refine q_callHI (As := [.ref (gad x1), .int (gI (sx (x4 + 1))), .int (gI (sx (x4 + 2))), .int (gI (sx (x4 + 3))), .int (gI (sx (x4 + 4))), .int (gI (sx (x4 + 5))), .ref (rh_ x3 0)]) (st := []) C vL_75 kL_line r173 ⟨Nat.le_of_ble_eq_true rfl, Nat.le_of_ble_eq_true rfl⟩ rfl rfl (Nat.le_of_ble_eq_true rfl) (mL_line l D cy kd_ ln_ rh_ _ x1 (sx (x4 + 1)) (sx (x4 + 2)) (sx (x4 + 3)) (sx (x4 + 4)) (sx (x4 + 5)) x3 0 M hst r52 (by rw [r54]; rfl) (fun _ q => by rw [r54]; exact q) h) dL_law_597 (fun c175 M174 g176 h => ?_)
          have h := h g176
          refine q_istore (lv' := [(5, .int (gI c175)), (0, .ref b9), (1, .ref (gad x1)), (2, .ref (gad x2)), (3, .ref (rh_ x3 0)), (4, .int (gI x4))]) C (by decide) rfl dL_law_600 ?_
          refine q_aload_n C 3 rfl rfl dL_law_602 ?_
          refine q_aload_n C 1 rfl rfl dL_law_603 ?_
          refine q_iload C 5 rfl dL_law_604 ?_
          refine q_iconst C dL_law_606 ?_
          refine q_iadd C dL_law_607 ?_
          refine q_sld C hX r168 dL_law_608 ?_
          refine q_aload_n C 1 rfl rfl dL_law_609 ?_
          refine q_iload C 5 rfl dL_law_610 ?_
          refine q_iconst C dL_law_612 ?_
          refine q_iadd C dL_law_613 ?_
          refine q_sld C hX r169 dL_law_614 ?_
          refine q_aload_n C 1 rfl rfl dL_law_615 ?_
          refine q_iload C 5 rfl dL_law_616 ?_
          refine q_iconst C dL_law_618 ?_
          refine q_iadd C dL_law_619 ?_
          refine q_sld C hX r170 dL_law_620 ?_
          refine q_aload_n C 1 rfl rfl dL_law_621 ?_
          refine q_iload C 5 rfl dL_law_622 ?_
          refine q_iconst C dL_law_624 ?_
          refine q_iadd C dL_law_625 ?_
          refine q_sld C hX r171 dL_law_626 ?_
          refine q_aload_n C 1 rfl rfl dL_law_627 ?_
          refine q_iload C 5 rfl dL_law_628 ?_
          refine q_iconst C dL_law_630 ?_
          refine q_iadd C dL_law_631 ?_
          refine q_sld C hX r172 dL_law_632 ?_
          refine q_callVI (As := [.int (gI (sx (x4 + 1))), .int (gI (sx (x4 + 2))), .int (gI (sx (x4 + 3))), .int (gI (sx (x4 + 4))), .int (gI (sx (x4 + 5)))]) (st := []) C vL_77 kX7_line r173 ⟨Nat.le_of_ble_eq_true rfl, Nat.le_of_ble_eq_true rfl⟩ rfl r53 ⟨_, _, rfl⟩ (by decide) rfl (Nat.le_of_ble_eq_true rfl) (mX7_line l D cy kd_ ln_ rh_ _ x2 (sx (x4 + 1)) (sx (x4 + 2)) (sx (x4 + 3)) (sx (x4 + 4)) (sx (x4 + 5)) M174 r53 h) dL_law_633 (fun c178 M177 g179 h => ?_)
          have h := h g179
          refine q_istore (lv' := [(6, .int (gI c178)), (5, .int (gI c175)), (0, .ref b9), (1, .ref (gad x1)), (2, .ref (gad x2)), (3, .ref (rh_ x3 0)), (4, .int (gI x4))]) C (by decide) rfl dL_law_636 ?_
          refine q_aload_n C 4 rfl rfl dL_law_638 ?_
          refine q_callVI (As := []) (st := []) C vL_63 kX7_thrown r173 ⟨Nat.le_of_ble_eq_true rfl, Nat.le_of_ble_eq_true rfl⟩ rfl r53 ⟨_, _, rfl⟩ (by decide) rfl (Nat.le_of_ble_eq_true rfl) (mX7_thrown l D cy kd_ ln_ rh_ _ x2 M177 r53 h) dL_law_639 (fun c181 M180 g182 h => ?_)
          have h := h g182
          refine q_iload C 1 rfl dL_law_642 ?_
          refine q_icmp_eq (tgt := 649) C g182 g176 (by decide) dL_law_644 (fun b183 => ?_) (fun b183 => ?_)
          · have h := h.1 b183
            refine q_iload C 1 rfl dL_law_649 ?_
            refine q_if_ne (tgt := 666) C g176 (by decide) dL_law_651 (fun b184 => ?_) (fun b184 => ?_)
            · have h := h.1 b184
              refine q_lv (lv' := [(0, .ref b9), (1, .ref (gad x1)), (2, .ref (gad x2)), (3, .ref (rh_ x3 0)), (4, .int (gI x4))]) [2, 3, 4, 5, 6] rfl ?_
              exact t666 (wL_law_23 mc ms  sL sx n) hk23_ kd_ ln_ rh_ (c_ + 1) (s_ + 6) kp_ x1 x2 x3 x4 M180 h
            · have h := h.2 b184
              refine q_aload_n C 5 rfl rfl dL_law_654 ?_
              refine q_iconst C dL_law_655 ?_
              obtain ⟨r185, h⟩ := h
              refine q_lald C r54 rfl (fun _ q => q) r185 dL_law_656 (fun g186 => ?_)
              have h := h g186
              refine q_iload C 0 rfl dL_law_657 ?_
              refine q_i2l C g179 dL_law_659 ?_
              refine q_lcmp C dL_law_660 ?_
              refine q_if_eq (tgt := 666) C (rng_of _) (by decide) dL_law_661 (fun b187 => ?_) (fun b187 => ?_)
              · have h := h.1 b187
                refine q_lv (lv' := [(0, .ref b9), (1, .ref (gad x1)), (2, .ref (gad x2)), (3, .ref (rh_ x3 0)), (4, .int (gI x4))]) [2, 3, 4, 5, 6] rfl ?_
                exact t666 (wL_law_23 mc ms  sL sx n) hk23_ kd_ ln_ rh_ (c_ + 1) (s_ + 6) kp_ x1 x2 x3 x4 M180 h
              · have h := h.2 b187
                refine q_iconst C dL_law_664 ?_
                exact h.elim
          · have h := h.2 b183
            refine q_iconst C dL_law_647 ?_
            exact h.elim
        · have h := h.2.2.2.2.2.2.2.2.2.1 b62
          refine q_tswIn (tgt := 669) (off := 629) C r61 (by omega) (by omega) (by rw [b62]; rfl) (by decide) dL_law_40 ?_
          refine q_aload_n C 1 rfl rfl dL_law_669 ?_
          refine q_aload_n C 0 rfl rfl dL_law_670 ?_
          refine q_iload C 4 rfl dL_law_671 ?_
          refine q_iconst C dL_law_673 ?_
          refine q_iadd C dL_law_674 ?_
          obtain ⟨r188, h⟩ := h
          refine q_sld C hX r188 dL_law_675 ?_
          have h := h (gScr_r hX _)
          refine q_aload_n C 0 rfl rfl dL_law_676 ?_
          refine q_iload C 4 rfl dL_law_677 ?_
          refine q_iconst C dL_law_679 ?_
          refine q_iadd C dL_law_680 ?_
          obtain ⟨r189, h⟩ := h
          refine q_sld C hX r189 dL_law_681 ?_
          have h := h (gScr_r hX _)
          refine q_callVI (As := [.int (gI (sx (x4 + 1))), .int (gI (sx (x4 + 2)))]) (st := []) C vL_78 kX6_ply r56 ⟨Nat.le_of_ble_eq_true rfl, Nat.le_of_ble_eq_true rfl⟩ rfl r52 ⟨_, _, rfl⟩ (by decide) rfl (Nat.le_of_ble_eq_true rfl) (mX6_ply l D cy kd_ ln_ rh_ _ x1 (sx (x4 + 1)) (sx (x4 + 2)) M r52 h) dL_law_682 (fun c191 M190 g192 h => ?_)
          have h := h g192
          refine q_aload_n C 2 rfl rfl dL_law_685 ?_
          refine q_aload_n C 0 rfl rfl dL_law_686 ?_
          refine q_iload C 4 rfl dL_law_687 ?_
          refine q_iconst C dL_law_689 ?_
          refine q_iadd C dL_law_690 ?_
          refine q_sld C hX r188 dL_law_691 ?_
          refine q_aload_n C 0 rfl rfl dL_law_692 ?_
          refine q_iload C 4 rfl dL_law_693 ?_
          refine q_iconst C dL_law_695 ?_
          refine q_iadd C dL_law_696 ?_
          refine q_sld C hX r189 dL_law_697 ?_
          refine q_callVI (As := [.int (gI (sx (x4 + 1))), .int (gI (sx (x4 + 2)))]) (st := [.int (gI c191)]) C vL_81 kX7_ply r56 ⟨Nat.le_of_ble_eq_true rfl, Nat.le_of_ble_eq_true rfl⟩ rfl r53 ⟨_, _, rfl⟩ (by decide) rfl (Nat.le_of_ble_eq_true rfl) (mX7_ply l D cy kd_ ln_ rh_ _ x2 (sx (x4 + 1)) (sx (x4 + 2)) M190 r53 h) dL_law_698 (fun c194 M193 g195 h => ?_)
          have h := h g195
          refine q_icmp_eq (tgt := 1246) C g192 g195 (by decide) dL_law_701 (fun b196 => ?_) (fun b196 => ?_)
          · have h := h.1 b196
            exact t1246 (wL_law_23 mc ms  sL sx n) hk23_ kd_ ln_ rh_ c_ s_ kp_ x1 x2 x3 x4 M193 h
          · have h := h.2 b196
            refine q_iconst C dL_law_704 ?_
            exact h.elim
        · have h := h.2.2.2.2.2.2.2.2.2.2.1 b62
          refine q_tswIn (tgt := 706) (off := 666) C r61 (by omega) (by omega) (by rw [b62]; rfl) (by decide) dL_law_40 ?_
          refine q_aload_n C 1 rfl rfl dL_law_706 ?_
          refine q_aload_n C 0 rfl rfl dL_law_707 ?_
          refine q_iload C 4 rfl dL_law_708 ?_
          refine q_iconst C dL_law_710 ?_
          refine q_iadd C dL_law_711 ?_
          obtain ⟨r197, h⟩ := h
          refine q_sld C hX r197 dL_law_712 ?_
          have h := h (gScr_r hX _)
          refine q_aload_n C 0 rfl rfl dL_law_713 ?_
          refine q_iload C 4 rfl dL_law_714 ?_
          refine q_iconst C dL_law_716 ?_
          refine q_iadd C dL_law_717 ?_
          obtain ⟨r198, h⟩ := h
          refine q_sld C hX r198 dL_law_718 ?_
          have h := h (gScr_r hX _)
          refine q_aload_n C 0 rfl rfl dL_law_719 ?_
          refine q_iload C 4 rfl dL_law_720 ?_
          refine q_iconst C dL_law_722 ?_
          refine q_iadd C dL_law_723 ?_
          obtain ⟨r199, h⟩ := h
          refine q_sld C hX r199 dL_law_724 ?_
          have h := h (gScr_r hX _)
          refine q_aload_n C 0 rfl rfl dL_law_725 ?_
          refine q_iload C 4 rfl dL_law_726 ?_
          refine q_iconst C dL_law_728 ?_
          refine q_iadd C dL_law_729 ?_
          obtain ⟨r200, h⟩ := h
          refine q_sld C hX r200 dL_law_730 ?_
          have h := h (gScr_r hX _)
          refine q_aload_n C 0 rfl rfl dL_law_731 ?_
          refine q_iload C 4 rfl dL_law_732 ?_
          refine q_iconst C dL_law_734 ?_
          refine q_iadd C dL_law_735 ?_
          obtain ⟨r201, h⟩ := h
          refine q_sld C hX r201 dL_law_736 ?_
          have h := h (gScr_r hX _)
          refine q_aload_n C 3 rfl rfl dL_law_737 ?_
          obtain ⟨r202, h⟩ := h
          refine q_callHI (As := [.ref (gad x1), .int (gI (sx (x4 + 1))), .int (gI (sx (x4 + 2))), .int (gI (sx (x4 + 3))), .int (gI (sx (x4 + 4))), .int (gI (sx (x4 + 5))), .ref (rh_ x3 0)]) (st := []) C vL_82 kL_number r202 ⟨Nat.le_of_ble_eq_true rfl, Nat.le_of_ble_eq_true rfl⟩ rfl rfl (Nat.le_of_ble_eq_true rfl) (mL_number l D cy kd_ ln_ rh_ _ x1 (sx (x4 + 1)) (sx (x4 + 2)) (sx (x4 + 3)) (sx (x4 + 4)) (sx (x4 + 5)) x3 0 M hst r52 (by rw [r54]; rfl) (fun _ q => by rw [r54]; exact q) h) dL_law_738 (fun c204 M203 g205 h => ?_)
          have h := h g205
          refine q_istore (lv' := [(5, .int (gI c204)), (0, .ref b9), (1, .ref (gad x1)), (2, .ref (gad x2)), (3, .ref (rh_ x3 0)), (4, .int (gI x4))]) C (by decide) rfl dL_law_741 ?_
          refine q_aload_n C 3 rfl rfl dL_law_743 ?_
          refine q_aload_n C 1 rfl rfl dL_law_744 ?_
          refine q_iload C 5 rfl dL_law_745 ?_
          refine q_iconst C dL_law_747 ?_
          refine q_iadd C dL_law_748 ?_
          refine q_sld C hX r197 dL_law_749 ?_
          refine q_aload_n C 1 rfl rfl dL_law_750 ?_
          refine q_iload C 5 rfl dL_law_751 ?_
          refine q_iconst C dL_law_753 ?_
          refine q_iadd C dL_law_754 ?_
          refine q_sld C hX r198 dL_law_755 ?_
          refine q_aload_n C 1 rfl rfl dL_law_756 ?_
          refine q_iload C 5 rfl dL_law_757 ?_
          refine q_iconst C dL_law_759 ?_
          refine q_iadd C dL_law_760 ?_
          refine q_sld C hX r199 dL_law_761 ?_
          refine q_aload_n C 1 rfl rfl dL_law_762 ?_
          refine q_iload C 5 rfl dL_law_763 ?_
          refine q_iconst C dL_law_765 ?_
          refine q_iadd C dL_law_766 ?_
          refine q_sld C hX r200 dL_law_767 ?_
          refine q_aload_n C 1 rfl rfl dL_law_768 ?_
          refine q_iload C 5 rfl dL_law_769 ?_
          refine q_iconst C dL_law_771 ?_
          refine q_iadd C dL_law_772 ?_
          refine q_sld C hX r201 dL_law_773 ?_
          refine q_callVI (As := [.int (gI (sx (x4 + 1))), .int (gI (sx (x4 + 2))), .int (gI (sx (x4 + 3))), .int (gI (sx (x4 + 4))), .int (gI (sx (x4 + 5)))]) (st := []) C vL_84 kX7_number r202 ⟨Nat.le_of_ble_eq_true rfl, Nat.le_of_ble_eq_true rfl⟩ rfl r53 ⟨_, _, rfl⟩ (by decide) rfl (Nat.le_of_ble_eq_true rfl) (mX7_number l D cy kd_ ln_ rh_ _ x2 (sx (x4 + 1)) (sx (x4 + 2)) (sx (x4 + 3)) (sx (x4 + 4)) (sx (x4 + 5)) M203 r53 h) dL_law_774 (fun c207 M206 g208 h => ?_)
          have h := h g208
          refine q_istore (lv' := [(6, .int (gI c207)), (5, .int (gI c204)), (0, .ref b9), (1, .ref (gad x1)), (2, .ref (gad x2)), (3, .ref (rh_ x3 0)), (4, .int (gI x4))]) C (by decide) rfl dL_law_777 ?_
          refine q_aload_n C 4 rfl rfl dL_law_779 ?_
          refine q_callVI (As := []) (st := []) C vL_63 kX7_thrown r202 ⟨Nat.le_of_ble_eq_true rfl, Nat.le_of_ble_eq_true rfl⟩ rfl r53 ⟨_, _, rfl⟩ (by decide) rfl (Nat.le_of_ble_eq_true rfl) (mX7_thrown l D cy kd_ ln_ rh_ _ x2 M206 r53 h) dL_law_780 (fun c210 M209 g211 h => ?_)
          have h := h g211
          refine q_iload C 1 rfl dL_law_783 ?_
          refine q_icmp_eq (tgt := 790) C g211 g205 (by decide) dL_law_785 (fun b212 => ?_) (fun b212 => ?_)
          · have h := h.1 b212
            refine q_iload C 1 rfl dL_law_790 ?_
            refine q_if_ne (tgt := 807) C g205 (by decide) dL_law_792 (fun b213 => ?_) (fun b213 => ?_)
            · have h := h.1 b213
              refine q_lv (lv' := [(0, .ref b9), (1, .ref (gad x1)), (2, .ref (gad x2)), (3, .ref (rh_ x3 0)), (4, .int (gI x4))]) [2, 3, 4, 5, 6] rfl ?_
              exact t807 (wL_law_23 mc ms  sL sx n) hk23_ kd_ ln_ rh_ (c_ + 1) (s_ + 6) kp_ x1 x2 x3 x4 M209 h
            · have h := h.2 b213
              refine q_aload_n C 5 rfl rfl dL_law_795 ?_
              refine q_iconst C dL_law_796 ?_
              obtain ⟨r214, h⟩ := h
              refine q_lald C r54 rfl (fun _ q => q) r214 dL_law_797 (fun g215 => ?_)
              have h := h g215
              refine q_iload C 0 rfl dL_law_798 ?_
              refine q_i2l C g208 dL_law_800 ?_
              refine q_lcmp C dL_law_801 ?_
              refine q_if_eq (tgt := 807) C (rng_of _) (by decide) dL_law_802 (fun b216 => ?_) (fun b216 => ?_)
              · have h := h.1 b216
                refine q_lv (lv' := [(0, .ref b9), (1, .ref (gad x1)), (2, .ref (gad x2)), (3, .ref (rh_ x3 0)), (4, .int (gI x4))]) [2, 3, 4, 5, 6] rfl ?_
                exact t807 (wL_law_23 mc ms  sL sx n) hk23_ kd_ ln_ rh_ (c_ + 1) (s_ + 6) kp_ x1 x2 x3 x4 M209 h
              · have h := h.2 b216
                refine q_iconst C dL_law_805 ?_
                exact h.elim
          · have h := h.2 b212
            refine q_iconst C dL_law_788 ?_
            exact h.elim
        · have h := h.2.2.2.2.2.2.2.2.2.2.2.1 b62
          refine q_tswIn (tgt := 810) (off := 770) C r61 (by omega) (by omega) (by rw [b62]; rfl) (by decide) dL_law_40 ?_
          refine q_aload_n C 1 rfl rfl dL_law_810 ?_
          refine q_aload_n C 0 rfl rfl dL_law_811 ?_
          refine q_iload C 4 rfl dL_law_812 ?_
          refine q_iconst C dL_law_814 ?_
          refine q_iadd C dL_law_815 ?_
          obtain ⟨r217, h⟩ := h
          refine q_sld C hX r217 dL_law_816 ?_
          have h := h (gScr_r hX _)
          refine q_aload_n C 0 rfl rfl dL_law_817 ?_
          refine q_iload C 4 rfl dL_law_818 ?_
          refine q_iconst C dL_law_820 ?_
          refine q_iadd C dL_law_821 ?_
          obtain ⟨r218, h⟩ := h
          refine q_sld C hX r218 dL_law_822 ?_
          have h := h (gScr_r hX _)
          refine q_aload_n C 0 rfl rfl dL_law_823 ?_
          refine q_iload C 4 rfl dL_law_824 ?_
          refine q_iconst C dL_law_826 ?_
          refine q_iadd C dL_law_827 ?_
          obtain ⟨r219, h⟩ := h
          refine q_sld C hX r219 dL_law_828 ?_
          have h := h (gScr_r hX _)
          refine q_aload_n C 3 rfl rfl dL_law_829 ?_
          obtain ⟨r220, h⟩ := h
          refine q_callHI (As := [.ref (gad x1), .int (gI (sx (x4 + 1))), .int (gI (sx (x4 + 2))), .int (gI (sx (x4 + 3))), .ref (rh_ x3 0)]) (st := []) C vL_85 kL_position r220 ⟨Nat.le_of_ble_eq_true rfl, Nat.le_of_ble_eq_true rfl⟩ rfl rfl (Nat.le_of_ble_eq_true rfl) (mL_position l D cy kd_ ln_ rh_ _ x1 (sx (x4 + 1)) (sx (x4 + 2)) (sx (x4 + 3)) x3 0 M hst r52 (by rw [r54]; rfl) (fun _ q => by rw [r54]; exact q) h) dL_law_830 (fun c222 M221 g223 h => ?_)
          have h := h g223
          refine q_istore (lv' := [(5, .int (gI c222)), (0, .ref b9), (1, .ref (gad x1)), (2, .ref (gad x2)), (3, .ref (rh_ x3 0)), (4, .int (gI x4))]) C (by decide) rfl dL_law_833 ?_
          refine q_aload_n C 3 rfl rfl dL_law_835 ?_
          refine q_aload_n C 1 rfl rfl dL_law_836 ?_
          refine q_iload C 5 rfl dL_law_837 ?_
          refine q_iconst C dL_law_839 ?_
          refine q_iadd C dL_law_840 ?_
          refine q_sld C hX r217 dL_law_841 ?_
          refine q_aload_n C 1 rfl rfl dL_law_842 ?_
          refine q_iload C 5 rfl dL_law_843 ?_
          refine q_iconst C dL_law_845 ?_
          refine q_iadd C dL_law_846 ?_
          refine q_sld C hX r218 dL_law_847 ?_
          refine q_aload_n C 1 rfl rfl dL_law_848 ?_
          refine q_iload C 5 rfl dL_law_849 ?_
          refine q_iconst C dL_law_851 ?_
          refine q_iadd C dL_law_852 ?_
          refine q_sld C hX r219 dL_law_853 ?_
          refine q_callVI (As := [.int (gI (sx (x4 + 1))), .int (gI (sx (x4 + 2))), .int (gI (sx (x4 + 3)))]) (st := []) C vL_88 kX7_position r220 ⟨Nat.le_of_ble_eq_true rfl, Nat.le_of_ble_eq_true rfl⟩ rfl r53 ⟨_, _, rfl⟩ (by decide) rfl (Nat.le_of_ble_eq_true rfl) (mX7_position l D cy kd_ ln_ rh_ _ x2 (sx (x4 + 1)) (sx (x4 + 2)) (sx (x4 + 3)) M221 r53 h) dL_law_854 (fun c225 M224 g226 h => ?_)
          have h := h g226
          refine q_istore (lv' := [(6, .int (gI c225)), (5, .int (gI c222)), (0, .ref b9), (1, .ref (gad x1)), (2, .ref (gad x2)), (3, .ref (rh_ x3 0)), (4, .int (gI x4))]) C (by decide) rfl dL_law_857 ?_
          refine q_aload_n C 4 rfl rfl dL_law_859 ?_
          refine q_callVI (As := []) (st := []) C vL_63 kX7_thrown r220 ⟨Nat.le_of_ble_eq_true rfl, Nat.le_of_ble_eq_true rfl⟩ rfl r53 ⟨_, _, rfl⟩ (by decide) rfl (Nat.le_of_ble_eq_true rfl) (mX7_thrown l D cy kd_ ln_ rh_ _ x2 M224 r53 h) dL_law_860 (fun c228 M227 g229 h => ?_)
          have h := h g229
          refine q_iload C 1 rfl dL_law_863 ?_
          refine q_icmp_eq (tgt := 870) C g229 g223 (by decide) dL_law_865 (fun b230 => ?_) (fun b230 => ?_)
          · have h := h.1 b230
            refine q_iload C 1 rfl dL_law_870 ?_
            refine q_if_ne (tgt := 887) C g223 (by decide) dL_law_872 (fun b231 => ?_) (fun b231 => ?_)
            · have h := h.1 b231
              refine q_lv (lv' := [(0, .ref b9), (1, .ref (gad x1)), (2, .ref (gad x2)), (3, .ref (rh_ x3 0)), (4, .int (gI x4))]) [2, 3, 4, 5, 6] rfl ?_
              exact t887 (wL_law_23 mc ms  sL sx n) hk23_ kd_ ln_ rh_ (c_ + 1) (s_ + 6) kp_ x1 x2 x3 x4 M227 h
            · have h := h.2 b231
              refine q_aload_n C 5 rfl rfl dL_law_875 ?_
              refine q_iconst C dL_law_876 ?_
              obtain ⟨r232, h⟩ := h
              refine q_lald C r54 rfl (fun _ q => q) r232 dL_law_877 (fun g233 => ?_)
              have h := h g233
              refine q_iload C 0 rfl dL_law_878 ?_
              refine q_i2l C g226 dL_law_880 ?_
              refine q_lcmp C dL_law_881 ?_
              refine q_if_eq (tgt := 887) C (rng_of _) (by decide) dL_law_882 (fun b234 => ?_) (fun b234 => ?_)
              · have h := h.1 b234
                refine q_lv (lv' := [(0, .ref b9), (1, .ref (gad x1)), (2, .ref (gad x2)), (3, .ref (rh_ x3 0)), (4, .int (gI x4))]) [2, 3, 4, 5, 6] rfl ?_
                exact t887 (wL_law_23 mc ms  sL sx n) hk23_ kd_ ln_ rh_ (c_ + 1) (s_ + 6) kp_ x1 x2 x3 x4 M227 h
              · have h := h.2 b234
                refine q_iconst C dL_law_885 ?_
                exact h.elim
          · have h := h.2 b230
            refine q_iconst C dL_law_868 ?_
            exact h.elim
        · have h := h.2.2.2.2.2.2.2.2.2.2.2.2.1 b62
          refine q_tswIn (tgt := 890) (off := 850) C r61 (by omega) (by omega) (by rw [b62]; rfl) (by decide) dL_law_40 ?_
          refine q_aload_n C 1 rfl rfl dL_law_890 ?_
          refine q_aload_n C 0 rfl rfl dL_law_891 ?_
          refine q_iload C 4 rfl dL_law_892 ?_
          refine q_iconst C dL_law_894 ?_
          refine q_iadd C dL_law_895 ?_
          obtain ⟨r235, h⟩ := h
          refine q_sld C hX r235 dL_law_896 ?_
          have h := h (gScr_r hX _)
          refine q_aload_n C 0 rfl rfl dL_law_897 ?_
          refine q_iload C 4 rfl dL_law_898 ?_
          refine q_iconst C dL_law_900 ?_
          refine q_iadd C dL_law_901 ?_
          obtain ⟨r236, h⟩ := h
          refine q_sld C hX r236 dL_law_902 ?_
          have h := h (gScr_r hX _)
          refine q_aload_n C 0 rfl rfl dL_law_903 ?_
          refine q_iload C 4 rfl dL_law_904 ?_
          refine q_iconst C dL_law_906 ?_
          refine q_iadd C dL_law_907 ?_
          obtain ⟨r237, h⟩ := h
          refine q_sld C hX r237 dL_law_908 ?_
          have h := h (gScr_r hX _)
          refine q_aload_n C 3 rfl rfl dL_law_909 ?_
          obtain ⟨r238, h⟩ := h
          refine q_callHI (As := [.ref (gad x1), .int (gI (sx (x4 + 1))), .int (gI (sx (x4 + 2))), .int (gI (sx (x4 + 3))), .ref (rh_ x3 0)]) (st := []) C vL_89 kL_count r238 ⟨Nat.le_of_ble_eq_true rfl, Nat.le_of_ble_eq_true rfl⟩ rfl rfl (Nat.le_of_ble_eq_true rfl) (mL_count l D cy kd_ ln_ rh_ _ x1 (sx (x4 + 1)) (sx (x4 + 2)) (sx (x4 + 3)) x3 0 M hst r52 (by rw [r54]; rfl) (fun _ q => by rw [r54]; exact q) h) dL_law_910 (fun c240 M239 g241 h => ?_)
          have h := h g241
          refine q_istore (lv' := [(5, .int (gI c240)), (0, .ref b9), (1, .ref (gad x1)), (2, .ref (gad x2)), (3, .ref (rh_ x3 0)), (4, .int (gI x4))]) C (by decide) rfl dL_law_913 ?_
          refine q_aload_n C 3 rfl rfl dL_law_915 ?_
          refine q_aload_n C 1 rfl rfl dL_law_916 ?_
          refine q_iload C 5 rfl dL_law_917 ?_
          refine q_iconst C dL_law_919 ?_
          refine q_iadd C dL_law_920 ?_
          refine q_sld C hX r235 dL_law_921 ?_
          refine q_aload_n C 1 rfl rfl dL_law_922 ?_
          refine q_iload C 5 rfl dL_law_923 ?_
          refine q_iconst C dL_law_925 ?_
          refine q_iadd C dL_law_926 ?_
          refine q_sld C hX r236 dL_law_927 ?_
          refine q_aload_n C 1 rfl rfl dL_law_928 ?_
          refine q_iload C 5 rfl dL_law_929 ?_
          refine q_iconst C dL_law_931 ?_
          refine q_iadd C dL_law_932 ?_
          refine q_sld C hX r237 dL_law_933 ?_
          refine q_callVI (As := [.int (gI (sx (x4 + 1))), .int (gI (sx (x4 + 2))), .int (gI (sx (x4 + 3)))]) (st := []) C vL_91 kX7_count r238 ⟨Nat.le_of_ble_eq_true rfl, Nat.le_of_ble_eq_true rfl⟩ rfl r53 ⟨_, _, rfl⟩ (by decide) rfl (Nat.le_of_ble_eq_true rfl) (mX7_count l D cy kd_ ln_ rh_ _ x2 (sx (x4 + 1)) (sx (x4 + 2)) (sx (x4 + 3)) M239 r53 h) dL_law_934 (fun c243 M242 g244 h => ?_)
          have h := h g244
          refine q_istore (lv' := [(6, .int (gI c243)), (5, .int (gI c240)), (0, .ref b9), (1, .ref (gad x1)), (2, .ref (gad x2)), (3, .ref (rh_ x3 0)), (4, .int (gI x4))]) C (by decide) rfl dL_law_937 ?_
          refine q_aload_n C 4 rfl rfl dL_law_939 ?_
          refine q_callVI (As := []) (st := []) C vL_63 kX7_thrown r238 ⟨Nat.le_of_ble_eq_true rfl, Nat.le_of_ble_eq_true rfl⟩ rfl r53 ⟨_, _, rfl⟩ (by decide) rfl (Nat.le_of_ble_eq_true rfl) (mX7_thrown l D cy kd_ ln_ rh_ _ x2 M242 r53 h) dL_law_940 (fun c246 M245 g247 h => ?_)
          have h := h g247
          refine q_iload C 1 rfl dL_law_943 ?_
          refine q_icmp_eq (tgt := 950) C g247 g241 (by decide) dL_law_945 (fun b248 => ?_) (fun b248 => ?_)
          · have h := h.1 b248
            refine q_iload C 1 rfl dL_law_950 ?_
            refine q_if_ne (tgt := 967) C g241 (by decide) dL_law_952 (fun b249 => ?_) (fun b249 => ?_)
            · have h := h.1 b249
              refine q_lv (lv' := [(0, .ref b9), (1, .ref (gad x1)), (2, .ref (gad x2)), (3, .ref (rh_ x3 0)), (4, .int (gI x4))]) [2, 3, 4, 5, 6] rfl ?_
              exact t967 (wL_law_23 mc ms  sL sx n) hk23_ kd_ ln_ rh_ (c_ + 1) (s_ + 6) kp_ x1 x2 x3 x4 M245 h
            · have h := h.2 b249
              refine q_aload_n C 5 rfl rfl dL_law_955 ?_
              refine q_iconst C dL_law_956 ?_
              obtain ⟨r250, h⟩ := h
              refine q_lald C r54 rfl (fun _ q => q) r250 dL_law_957 (fun g251 => ?_)
              have h := h g251
              refine q_iload C 0 rfl dL_law_958 ?_
              refine q_i2l C g244 dL_law_960 ?_
              refine q_lcmp C dL_law_961 ?_
              refine q_if_eq (tgt := 967) C (rng_of _) (by decide) dL_law_962 (fun b252 => ?_) (fun b252 => ?_)
              · have h := h.1 b252
                refine q_lv (lv' := [(0, .ref b9), (1, .ref (gad x1)), (2, .ref (gad x2)), (3, .ref (rh_ x3 0)), (4, .int (gI x4))]) [2, 3, 4, 5, 6] rfl ?_
                exact t967 (wL_law_23 mc ms  sL sx n) hk23_ kd_ ln_ rh_ (c_ + 1) (s_ + 6) kp_ x1 x2 x3 x4 M245 h
              · have h := h.2 b252
                refine q_iconst C dL_law_965 ?_
                exact h.elim
          · have h := h.2 b248
            refine q_iconst C dL_law_948 ?_
            exact h.elim
        · have h := h.2.2.2.2.2.2.2.2.2.2.2.2.2.1 b62
          refine q_tswIn (tgt := 970) (off := 930) C r61 (by omega) (by omega) (by rw [b62]; rfl) (by decide) dL_law_40 ?_
          refine q_aload_n C 1 rfl rfl dL_law_970 ?_
          refine q_aload_n C 0 rfl rfl dL_law_971 ?_
          refine q_iload C 4 rfl dL_law_972 ?_
          refine q_iconst C dL_law_974 ?_
          refine q_iadd C dL_law_975 ?_
          obtain ⟨r253, h⟩ := h
          refine q_sld C hX r253 dL_law_976 ?_
          have h := h (gScr_r hX _)
          refine q_aload_n C 0 rfl rfl dL_law_977 ?_
          refine q_iload C 4 rfl dL_law_978 ?_
          refine q_iconst C dL_law_980 ?_
          refine q_iadd C dL_law_981 ?_
          obtain ⟨r254, h⟩ := h
          refine q_sld C hX r254 dL_law_982 ?_
          have h := h (gScr_r hX _)
          refine q_aload_n C 0 rfl rfl dL_law_983 ?_
          refine q_iload C 4 rfl dL_law_984 ?_
          refine q_iconst C dL_law_986 ?_
          refine q_iadd C dL_law_987 ?_
          obtain ⟨r255, h⟩ := h
          refine q_sld C hX r255 dL_law_988 ?_
          have h := h (gScr_r hX _)
          refine q_aload_n C 3 rfl rfl dL_law_989 ?_
          obtain ⟨r256, h⟩ := h
          refine q_callHI (As := [.ref (gad x1), .int (gI (sx (x4 + 1))), .int (gI (sx (x4 + 2))), .int (gI (sx (x4 + 3))), .ref (rh_ x3 0)]) (st := []) C vL_92 kL_longest r256 ⟨Nat.le_of_ble_eq_true rfl, Nat.le_of_ble_eq_true rfl⟩ rfl rfl (Nat.le_of_ble_eq_true rfl) (mL_longest l D cy kd_ ln_ rh_ _ x1 (sx (x4 + 1)) (sx (x4 + 2)) (sx (x4 + 3)) x3 0 M hst r52 (by rw [r54]; rfl) (fun _ q => by rw [r54]; exact q) h) dL_law_990 (fun c258 M257 g259 h => ?_)
          have h := h g259
          refine q_istore (lv' := [(5, .int (gI c258)), (0, .ref b9), (1, .ref (gad x1)), (2, .ref (gad x2)), (3, .ref (rh_ x3 0)), (4, .int (gI x4))]) C (by decide) rfl dL_law_993 ?_
          refine q_aload_n C 3 rfl rfl dL_law_995 ?_
          refine q_aload_n C 1 rfl rfl dL_law_996 ?_
          refine q_iload C 5 rfl dL_law_997 ?_
          refine q_iconst C dL_law_999 ?_
          refine q_iadd C dL_law_1000 ?_
          refine q_sld C hX r253 dL_law_1001 ?_
          refine q_aload_n C 1 rfl rfl dL_law_1002 ?_
          refine q_iload C 5 rfl dL_law_1003 ?_
          refine q_iconst C dL_law_1005 ?_
          refine q_iadd C dL_law_1006 ?_
          refine q_sld C hX r254 dL_law_1007 ?_
          refine q_aload_n C 1 rfl rfl dL_law_1008 ?_
          refine q_iload C 5 rfl dL_law_1009 ?_
          refine q_iconst C dL_law_1011 ?_
          refine q_iadd C dL_law_1012 ?_
          refine q_sld C hX r255 dL_law_1013 ?_
          refine q_callVI (As := [.int (gI (sx (x4 + 1))), .int (gI (sx (x4 + 2))), .int (gI (sx (x4 + 3)))]) (st := []) C vL_94 kX7_longest r256 ⟨Nat.le_of_ble_eq_true rfl, Nat.le_of_ble_eq_true rfl⟩ rfl r53 ⟨_, _, rfl⟩ (by decide) rfl (Nat.le_of_ble_eq_true rfl) (mX7_longest l D cy kd_ ln_ rh_ _ x2 (sx (x4 + 1)) (sx (x4 + 2)) (sx (x4 + 3)) M257 r53 h) dL_law_1014 (fun c261 M260 g262 h => ?_)
          have h := h g262
          refine q_istore (lv' := [(6, .int (gI c261)), (5, .int (gI c258)), (0, .ref b9), (1, .ref (gad x1)), (2, .ref (gad x2)), (3, .ref (rh_ x3 0)), (4, .int (gI x4))]) C (by decide) rfl dL_law_1017 ?_
          refine q_aload_n C 4 rfl rfl dL_law_1019 ?_
          refine q_callVI (As := []) (st := []) C vL_63 kX7_thrown r256 ⟨Nat.le_of_ble_eq_true rfl, Nat.le_of_ble_eq_true rfl⟩ rfl r53 ⟨_, _, rfl⟩ (by decide) rfl (Nat.le_of_ble_eq_true rfl) (mX7_thrown l D cy kd_ ln_ rh_ _ x2 M260 r53 h) dL_law_1020 (fun c264 M263 g265 h => ?_)
          have h := h g265
          refine q_iload C 1 rfl dL_law_1023 ?_
          refine q_icmp_eq (tgt := 1030) C g265 g259 (by decide) dL_law_1025 (fun b266 => ?_) (fun b266 => ?_)
          · have h := h.1 b266
            refine q_iload C 1 rfl dL_law_1030 ?_
            refine q_if_ne (tgt := 1047) C g259 (by decide) dL_law_1032 (fun b267 => ?_) (fun b267 => ?_)
            · have h := h.1 b267
              refine q_lv (lv' := [(0, .ref b9), (1, .ref (gad x1)), (2, .ref (gad x2)), (3, .ref (rh_ x3 0)), (4, .int (gI x4))]) [2, 3, 4, 5, 6] rfl ?_
              exact t1047 (wL_law_23 mc ms  sL sx n) hk23_ kd_ ln_ rh_ (c_ + 1) (s_ + 6) kp_ x1 x2 x3 x4 M263 h
            · have h := h.2 b267
              refine q_aload_n C 5 rfl rfl dL_law_1035 ?_
              refine q_iconst C dL_law_1036 ?_
              obtain ⟨r268, h⟩ := h
              refine q_lald C r54 rfl (fun _ q => q) r268 dL_law_1037 (fun g269 => ?_)
              have h := h g269
              refine q_iload C 0 rfl dL_law_1038 ?_
              refine q_i2l C g262 dL_law_1040 ?_
              refine q_lcmp C dL_law_1041 ?_
              refine q_if_eq (tgt := 1047) C (rng_of _) (by decide) dL_law_1042 (fun b270 => ?_) (fun b270 => ?_)
              · have h := h.1 b270
                refine q_lv (lv' := [(0, .ref b9), (1, .ref (gad x1)), (2, .ref (gad x2)), (3, .ref (rh_ x3 0)), (4, .int (gI x4))]) [2, 3, 4, 5, 6] rfl ?_
                exact t1047 (wL_law_23 mc ms  sL sx n) hk23_ kd_ ln_ rh_ (c_ + 1) (s_ + 6) kp_ x1 x2 x3 x4 M263 h
              · have h := h.2 b270
                refine q_iconst C dL_law_1045 ?_
                exact h.elim
          · have h := h.2 b266
            refine q_iconst C dL_law_1028 ?_
            exact h.elim
        · have h := h.2.2.2.2.2.2.2.2.2.2.2.2.2.2.1 b62
          refine q_tswIn (tgt := 1050) (off := 1010) C r61 (by omega) (by omega) (by rw [b62]; rfl) (by decide) dL_law_40 ?_
          refine q_aload_n C 1 rfl rfl dL_law_1050 ?_
          refine q_aload_n C 0 rfl rfl dL_law_1051 ?_
          refine q_iload C 4 rfl dL_law_1052 ?_
          refine q_iconst C dL_law_1054 ?_
          refine q_iadd C dL_law_1055 ?_
          obtain ⟨r271, h⟩ := h
          refine q_sld C hX r271 dL_law_1056 ?_
          have h := h (gScr_r hX _)
          refine q_aload_n C 0 rfl rfl dL_law_1057 ?_
          refine q_iload C 4 rfl dL_law_1058 ?_
          refine q_iconst C dL_law_1060 ?_
          refine q_iadd C dL_law_1061 ?_
          obtain ⟨r272, h⟩ := h
          refine q_sld C hX r272 dL_law_1062 ?_
          have h := h (gScr_r hX _)
          refine q_aload_n C 0 rfl rfl dL_law_1063 ?_
          refine q_iload C 4 rfl dL_law_1064 ?_
          refine q_iconst C dL_law_1066 ?_
          refine q_iadd C dL_law_1067 ?_
          obtain ⟨r273, h⟩ := h
          refine q_sld C hX r273 dL_law_1068 ?_
          have h := h (gScr_r hX _)
          refine q_aload_n C 0 rfl rfl dL_law_1069 ?_
          refine q_iload C 4 rfl dL_law_1070 ?_
          refine q_iconst C dL_law_1072 ?_
          refine q_iadd C dL_law_1073 ?_
          obtain ⟨r274, h⟩ := h
          refine q_sld C hX r274 dL_law_1074 ?_
          have h := h (gScr_r hX _)
          refine q_aload_n C 0 rfl rfl dL_law_1075 ?_
          refine q_iload C 4 rfl dL_law_1076 ?_
          refine q_iconst C dL_law_1078 ?_
          refine q_iadd C dL_law_1079 ?_
          obtain ⟨r275, h⟩ := h
          refine q_sld C hX r275 dL_law_1080 ?_
          have h := h (gScr_r hX _)
          refine q_callVI (As := [.int (gI (sx (x4 + 1))), .int (gI (sx (x4 + 2))), .int (gI (sx (x4 + 3))), .int (gI (sx (x4 + 4))), .int (gI (sx (x4 + 5)))]) (st := []) C vL_95 kX6_feed r56 ⟨Nat.le_of_ble_eq_true rfl, Nat.le_of_ble_eq_true rfl⟩ rfl r52 ⟨_, _, rfl⟩ (by decide) rfl (Nat.le_of_ble_eq_true rfl) (mX6_feed l D cy kd_ ln_ rh_ _ x1 (sx (x4 + 1)) (sx (x4 + 2)) (sx (x4 + 3)) (sx (x4 + 4)) (sx (x4 + 5)) M r52 h) dL_law_1081 (fun c277 M276 g278 h => ?_)
          have h := h g278
          refine q_aload_n C 2 rfl rfl dL_law_1084 ?_
          refine q_aload_n C 0 rfl rfl dL_law_1085 ?_
          refine q_iload C 4 rfl dL_law_1086 ?_
          refine q_iconst C dL_law_1088 ?_
          refine q_iadd C dL_law_1089 ?_
          refine q_sld C hX r271 dL_law_1090 ?_
          refine q_aload_n C 0 rfl rfl dL_law_1091 ?_
          refine q_iload C 4 rfl dL_law_1092 ?_
          refine q_iconst C dL_law_1094 ?_
          refine q_iadd C dL_law_1095 ?_
          refine q_sld C hX r272 dL_law_1096 ?_
          refine q_aload_n C 0 rfl rfl dL_law_1097 ?_
          refine q_iload C 4 rfl dL_law_1098 ?_
          refine q_iconst C dL_law_1100 ?_
          refine q_iadd C dL_law_1101 ?_
          refine q_sld C hX r273 dL_law_1102 ?_
          refine q_aload_n C 0 rfl rfl dL_law_1103 ?_
          refine q_iload C 4 rfl dL_law_1104 ?_
          refine q_iconst C dL_law_1106 ?_
          refine q_iadd C dL_law_1107 ?_
          refine q_sld C hX r274 dL_law_1108 ?_
          refine q_aload_n C 0 rfl rfl dL_law_1109 ?_
          refine q_iload C 4 rfl dL_law_1110 ?_
          refine q_iconst C dL_law_1112 ?_
          refine q_iadd C dL_law_1113 ?_
          refine q_sld C hX r275 dL_law_1114 ?_
          refine q_callVI (As := [.int (gI (sx (x4 + 1))), .int (gI (sx (x4 + 2))), .int (gI (sx (x4 + 3))), .int (gI (sx (x4 + 4))), .int (gI (sx (x4 + 5)))]) (st := [.int (gI c277)]) C vL_98 kX7_feed r56 ⟨Nat.le_of_ble_eq_true rfl, Nat.le_of_ble_eq_true rfl⟩ rfl r53 ⟨_, _, rfl⟩ (by decide) rfl (Nat.le_of_ble_eq_true rfl) (mX7_feed l D cy kd_ ln_ rh_ _ x2 (sx (x4 + 1)) (sx (x4 + 2)) (sx (x4 + 3)) (sx (x4 + 4)) (sx (x4 + 5)) M276 r53 h) dL_law_1115 (fun c280 M279 g281 h => ?_)
          have h := h g281
          refine q_icmp_eq (tgt := 1246) C g278 g281 (by decide) dL_law_1118 (fun b282 => ?_) (fun b282 => ?_)
          · have h := h.1 b282
            exact t1246 (wL_law_23 mc ms  sL sx n) hk23_ kd_ ln_ rh_ c_ s_ kp_ x1 x2 x3 x4 M279 h
          · have h := h.2 b282
            refine q_iconst C dL_law_1121 ?_
            exact h.elim
        · have h := h.2.2.2.2.2.2.2.2.2.2.2.2.2.2.2.1 b62
          refine q_tswIn (tgt := 1123) (off := 1083) C r61 (by omega) (by omega) (by rw [b62]; rfl) (by decide) dL_law_40 ?_
          refine q_aload_n C 1 rfl rfl dL_law_1123 ?_
          refine q_aload_n C 0 rfl rfl dL_law_1124 ?_
          refine q_iload C 4 rfl dL_law_1125 ?_
          refine q_iconst C dL_law_1127 ?_
          refine q_iadd C dL_law_1128 ?_
          obtain ⟨r283, h⟩ := h
          refine q_sld C hX r283 dL_law_1129 ?_
          have h := h (gScr_r hX _)
          refine q_callVI (As := [.int (gI (sx (x4 + 1)))]) (st := []) C vL_99 kX6_read r56 ⟨Nat.le_of_ble_eq_true rfl, Nat.le_of_ble_eq_true rfl⟩ rfl r52 ⟨_, _, rfl⟩ (by decide) rfl (Nat.le_of_ble_eq_true rfl) (mX6_read l D cy kd_ ln_ rh_ _ x1 (sx (x4 + 1)) M r52 h) dL_law_1130 (fun c285 M284 g286 h => ?_)
          have h := h g286
          refine q_aload_n C 2 rfl rfl dL_law_1133 ?_
          refine q_aload_n C 0 rfl rfl dL_law_1134 ?_
          refine q_iload C 4 rfl dL_law_1135 ?_
          refine q_iconst C dL_law_1137 ?_
          refine q_iadd C dL_law_1138 ?_
          refine q_sld C hX r283 dL_law_1139 ?_
          refine q_callVI (As := [.int (gI (sx (x4 + 1)))]) (st := [.int (gI c285)]) C vL_102 kX7_read r56 ⟨Nat.le_of_ble_eq_true rfl, Nat.le_of_ble_eq_true rfl⟩ rfl r53 ⟨_, _, rfl⟩ (by decide) rfl (Nat.le_of_ble_eq_true rfl) (mX7_read l D cy kd_ ln_ rh_ _ x2 (sx (x4 + 1)) M284 r53 h) dL_law_1140 (fun c288 M287 g289 h => ?_)
          have h := h g289
          refine q_icmp_eq (tgt := 1246) C g286 g289 (by decide) dL_law_1143 (fun b290 => ?_) (fun b290 => ?_)
          · have h := h.1 b290
            exact t1246 (wL_law_23 mc ms  sL sx n) hk23_ kd_ ln_ rh_ c_ s_ kp_ x1 x2 x3 x4 M287 h
          · have h := h.2 b290
            refine q_iconst C dL_law_1146 ?_
            exact h.elim
        · have h := h.2.2.2.2.2.2.2.2.2.2.2.2.2.2.2.2.1 b62
          refine q_tswIn (tgt := 1148) (off := 1108) C r61 (by omega) (by omega) (by rw [b62]; rfl) (by decide) dL_law_40 ?_
          refine q_aload_n C 1 rfl rfl dL_law_1148 ?_
          refine q_aload_n C 0 rfl rfl dL_law_1149 ?_
          refine q_iload C 4 rfl dL_law_1150 ?_
          refine q_iconst C dL_law_1152 ?_
          refine q_iadd C dL_law_1153 ?_
          obtain ⟨r291, h⟩ := h
          refine q_sld C hX r291 dL_law_1154 ?_
          have h := h (gScr_r hX _)
          refine q_aload_n C 0 rfl rfl dL_law_1155 ?_
          refine q_iload C 4 rfl dL_law_1156 ?_
          refine q_iconst C dL_law_1158 ?_
          refine q_iadd C dL_law_1159 ?_
          obtain ⟨r292, h⟩ := h
          refine q_sld C hX r292 dL_law_1160 ?_
          have h := h (gScr_r hX _)
          refine q_aload_n C 0 rfl rfl dL_law_1161 ?_
          refine q_iload C 4 rfl dL_law_1162 ?_
          refine q_iconst C dL_law_1164 ?_
          refine q_iadd C dL_law_1165 ?_
          obtain ⟨r293, h⟩ := h
          refine q_sld C hX r293 dL_law_1166 ?_
          have h := h (gScr_r hX _)
          refine q_aload_n C 0 rfl rfl dL_law_1167 ?_
          refine q_iload C 4 rfl dL_law_1168 ?_
          refine q_iconst C dL_law_1170 ?_
          refine q_iadd C dL_law_1171 ?_
          obtain ⟨r294, h⟩ := h
          refine q_sld C hX r294 dL_law_1172 ?_
          have h := h (gScr_r hX _)
          refine q_aload_n C 0 rfl rfl dL_law_1173 ?_
          refine q_iload C 4 rfl dL_law_1174 ?_
          refine q_iconst C dL_law_1176 ?_
          refine q_iadd C dL_law_1177 ?_
          obtain ⟨r295, h⟩ := h
          refine q_sld C hX r295 dL_law_1178 ?_
          have h := h (gScr_r hX _)
          refine q_callVI (As := [.int (gI (sx (x4 + 1))), .int (gI (sx (x4 + 2))), .int (gI (sx (x4 + 3))), .int (gI (sx (x4 + 4))), .int (gI (sx (x4 + 5)))]) (st := []) C vL_103 kX6_show r56 ⟨Nat.le_of_ble_eq_true rfl, Nat.le_of_ble_eq_true rfl⟩ rfl r52 ⟨_, _, rfl⟩ (by decide) rfl (Nat.le_of_ble_eq_true rfl) (mX6_show l D cy kd_ ln_ rh_ _ x1 (sx (x4 + 1)) (sx (x4 + 2)) (sx (x4 + 3)) (sx (x4 + 4)) (sx (x4 + 5)) M r52 h) dL_law_1179 (fun c297 M296 g298 h => ?_)
          have h := h g298
          refine q_aload_n C 2 rfl rfl dL_law_1182 ?_
          refine q_aload_n C 0 rfl rfl dL_law_1183 ?_
          refine q_iload C 4 rfl dL_law_1184 ?_
          refine q_iconst C dL_law_1186 ?_
          refine q_iadd C dL_law_1187 ?_
          refine q_sld C hX r291 dL_law_1188 ?_
          refine q_aload_n C 0 rfl rfl dL_law_1189 ?_
          refine q_iload C 4 rfl dL_law_1190 ?_
          refine q_iconst C dL_law_1192 ?_
          refine q_iadd C dL_law_1193 ?_
          refine q_sld C hX r292 dL_law_1194 ?_
          refine q_aload_n C 0 rfl rfl dL_law_1195 ?_
          refine q_iload C 4 rfl dL_law_1196 ?_
          refine q_iconst C dL_law_1198 ?_
          refine q_iadd C dL_law_1199 ?_
          refine q_sld C hX r293 dL_law_1200 ?_
          refine q_aload_n C 0 rfl rfl dL_law_1201 ?_
          refine q_iload C 4 rfl dL_law_1202 ?_
          refine q_iconst C dL_law_1204 ?_
          refine q_iadd C dL_law_1205 ?_
          refine q_sld C hX r294 dL_law_1206 ?_
          refine q_aload_n C 0 rfl rfl dL_law_1207 ?_
          refine q_iload C 4 rfl dL_law_1208 ?_
          refine q_iconst C dL_law_1210 ?_
          refine q_iadd C dL_law_1211 ?_
          refine q_sld C hX r295 dL_law_1212 ?_
          refine q_callVI (As := [.int (gI (sx (x4 + 1))), .int (gI (sx (x4 + 2))), .int (gI (sx (x4 + 3))), .int (gI (sx (x4 + 4))), .int (gI (sx (x4 + 5)))]) (st := [.int (gI c297)]) C vL_106 kX7_show r56 ⟨Nat.le_of_ble_eq_true rfl, Nat.le_of_ble_eq_true rfl⟩ rfl r53 ⟨_, _, rfl⟩ (by decide) rfl (Nat.le_of_ble_eq_true rfl) (mX7_show l D cy kd_ ln_ rh_ _ x2 (sx (x4 + 1)) (sx (x4 + 2)) (sx (x4 + 3)) (sx (x4 + 4)) (sx (x4 + 5)) M296 r53 h) dL_law_1213 (fun c300 M299 g301 h => ?_)
          have h := h g301
          refine q_icmp_eq (tgt := 1246) C g298 g301 (by decide) dL_law_1216 (fun b302 => ?_) (fun b302 => ?_)
          · have h := h.1 b302
            exact t1246 (wL_law_23 mc ms  sL sx n) hk23_ kd_ ln_ rh_ c_ s_ kp_ x1 x2 x3 x4 M299 h
          · have h := h.2 b302
            refine q_iconst C dL_law_1219 ?_
            exact h.elim
        · have h := h.2.2.2.2.2.2.2.2.2.2.2.2.2.2.2.2.2 b62
          refine q_tswIn (tgt := 1221) (off := 1181) C r61 (by omega) (by omega) (by rw [b62]; rfl) (by decide) dL_law_40 ?_
          refine q_aload_n C 1 rfl rfl dL_law_1221 ?_
          refine q_aload_n C 0 rfl rfl dL_law_1222 ?_
          refine q_iload C 4 rfl dL_law_1223 ?_
          refine q_iconst C dL_law_1225 ?_
          refine q_iadd C dL_law_1226 ?_
          obtain ⟨r303, h⟩ := h
          refine q_sld C hX r303 dL_law_1227 ?_
          have h := h (gScr_r hX _)
          refine q_callVI (As := [.int (gI (sx (x4 + 1)))]) (st := []) C vL_107 kX6_out r56 ⟨Nat.le_of_ble_eq_true rfl, Nat.le_of_ble_eq_true rfl⟩ rfl r52 ⟨_, _, rfl⟩ (by decide) rfl (Nat.le_of_ble_eq_true rfl) (mX6_out l D cy kd_ ln_ rh_ _ x1 (sx (x4 + 1)) M r52 h) dL_law_1228 (fun c305 M304 g306 h => ?_)
          have h := h g306
          refine q_aload_n C 2 rfl rfl dL_law_1231 ?_
          refine q_aload_n C 0 rfl rfl dL_law_1232 ?_
          refine q_iload C 4 rfl dL_law_1233 ?_
          refine q_iconst C dL_law_1235 ?_
          refine q_iadd C dL_law_1236 ?_
          refine q_sld C hX r303 dL_law_1237 ?_
          refine q_callVI (As := [.int (gI (sx (x4 + 1)))]) (st := [.int (gI c305)]) C vL_110 kX7_out r56 ⟨Nat.le_of_ble_eq_true rfl, Nat.le_of_ble_eq_true rfl⟩ rfl r53 ⟨_, _, rfl⟩ (by decide) rfl (Nat.le_of_ble_eq_true rfl) (mX7_out l D cy kd_ ln_ rh_ _ x2 (sx (x4 + 1)) M304 r53 h) dL_law_1238 (fun c308 M307 g309 h => ?_)
          have h := h g309
          refine q_icmp_eq (tgt := 1246) C g306 g309 (by decide) dL_law_1241 (fun b310 => ?_) (fun b310 => ?_)
          · have h := h.1 b310
            exact t1246 (wL_law_23 mc ms  sL sx n) hk23_ kd_ ln_ rh_ c_ s_ kp_ x1 x2 x3 x4 M307 h
          · have h := h.2 b310
            refine q_iconst C dL_law_1244 ?_
            exact h.elim
  unfold wL_law at h
  obtain ⟨r1, h⟩ := h
  refine q_new C wL_8 r1.1 r1.2 dL_law_0 (fun o2 kd3 M4 g5 g6 g7 e8 e9 kn10 => ?_)
  have h := h o2 kd3 M4 g5 g6 g7 e8 e9
  have hk11 : kd3 o2 = 6 := by rw [e8]; exact gkn_s
  have kp12 := gKp_t gKp_r kn10
  refine q_dup C rfl dL_law_3 ?_
  obtain ⟨mc13, ms14, r20, h⟩ := h
  refine q_callIX (As := []) (st := [.ref (gad o2)]) (o := o2) C iL_34 kX6_init r20 ⟨Nat.le_of_ble_eq_true rfl, Nat.le_of_ble_eq_true rfl⟩ rfl rfl (Nat.le_of_ble_eq_true rfl) (mX6_init l D cy mc13 ms14 kd3 ln rh _ o2 M4 hk11 h) dL_law_4 (fun kd15 ln16 rh17 M18 kn19 h => ?_)
  have kp21 := gKp_t kp12 kn19
  refine q_astore_n (lv' := [(1, .ref (gad o2)), (0, .ref b9)]) C rfl (by decide) rfl dL_law_7 ?_
  obtain ⟨r22, h⟩ := h
  refine q_new C wL_35 r22.1 r22.2 dL_law_8 (fun o23 kd24 M25 g26 g27 g28 e29 e30 kn31 => ?_)
  have h := h o23 kd24 M25 g26 g27 g28 e29 e30
  have hk32 : kd24 o23 = 7 := by rw [e29]; exact gkn_s
  have kp33 := gKp_t kp21 kn31
  refine q_dup C rfl dL_law_11 ?_
  obtain ⟨mc34, ms35, r41, h⟩ := h
  refine q_callIX (As := []) (st := [.ref (gad o23)]) (o := o23) C iL_37 kX7_init r41 ⟨Nat.le_of_ble_eq_true rfl, Nat.le_of_ble_eq_true rfl⟩ rfl rfl (Nat.le_of_ble_eq_true rfl) (mX7_init l D cy mc34 ms35 kd24 ln16 rh17 _ o23 M25 hk32 h) dL_law_12 (fun kd36 ln37 rh38 M39 kn40 h => ?_)
  have kp42 := gKp_t kp33 kn40
  refine q_astore_n (lv' := [(2, .ref (gad o23)), (1, .ref (gad o2)), (0, .ref b9)]) C rfl (by decide) rfl dL_law_15 ?_
  refine q_iconst C dL_law_16 ?_
  obtain ⟨r43, h⟩ := h
  obtain ⟨r44, h⟩ := h
  obtain ⟨r45, h⟩ := h
  refine q_newout C r43 r44 r45.1 r45.2 dL_law_17 (fun ln46 rh47 e48 kn49 => ?_)
  have h := h ln46 e48
  have kp50 := gKp_t kp42 kn49
  have g51 : 0 ≤ ln46 (-1) 0 := by rw [e48, gla_s]; decide
  refine q_astore_n (lv' := [(3, .ref (rh47 (-1) 0)), (2, .ref (gad o23)), (1, .ref (gad o2)), (0, .ref b9)]) C rfl (by decide) rfl dL_law_19 ?_
  refine q_iconst C dL_law_20 ?_
  refine q_istore (lv' := [(4, .int (gI 0)), (3, .ref (rh47 (-1) 0)), (2, .ref (gad o23)), (1, .ref (gad o2)), (0, .ref b9)]) C (by decide) rfl dL_law_21 ?_
  refine q_lv (lv' := [(0, .ref b9), (1, .ref (gad o2)), (2, .ref (gad o23)), (3, .ref (rh47 (-1) 0)), (4, .int (gI 0))]) [4, 3, 2, 1, 0] rfl ?_
  obtain ⟨j23, h⟩ := h
  exact t23  j23 kd36 ln46 rh47 (0 + 1 + mc13 + 1 + mc34 + 1) (0 + 13 + ms14 + 28 + ms35 + 1) kp50 o2 o23 (-1) 0 (gza M39 (-1) 0) h
