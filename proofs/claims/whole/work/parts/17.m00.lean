set_option maxHeartbeats 4000000 in
set_option maxRecDepth 100000 in
theorem mL_best (l : Launch) (D : va_G) (cy : Nat → ClassId) (kd : gKd) (ln : gLn) (rh : gRh) (post : Int → gM → Prop) (a0 : Int) (a1 : Int) (a2 : Int) (a3 : Int) (a4 : Int) (a5 : Int) (a6 : Int) (k6_ : Nat) (M : gM) (hst : l.stackTraces = false) (hk0 : kd a0 = 6) (hp6 : gak (kd a6) k6_ = 11) (hq6 : ∀ x, 0 ≤ x ∧ x < 18446744073709551616 → gRg (kd a6) k6_ x) (h : wL_best kd ln post a0 a1 a2 a3 a4 a5 a6 k6_ M) : gHI l D cy yL_best cL_best 8 [(0, 16, 19, 13)] 9 200 [.ref (gad a0), .int (gI a1), .int (gI a2), .int (gI a3), .int (gI a4), .int (gI a5), .ref (rh a6 k6_)] kd ln rh M post := by
  refine gHI_of (own := RL) (by decide) rfl (Nat.le_of_ble_eq_true rfl) ?_
  intro p e s m args below meth c A H0 Q C hxt hret
  unfold wL_best at h
  refine q_aload C 6 rfl dL_best_0 ?_
  refine q_iconst C dL_best_2 ?_
  refine q_aload_n C 0 rfl rfl dL_best_3 ?_
  refine q_iload_n C 1 rfl rfl dL_best_4 ?_
  refine q_iload_n C 2 rfl rfl dL_best_5 ?_
  refine q_iload_n C 3 rfl rfl dL_best_6 ?_
  refine q_iload C 4 rfl dL_best_7 ?_
  refine q_iload C 5 rfl dL_best_9 ?_
  refine q_callTI (As := [.int (gI a1), .int (gI a2), .int (gI a3), .int (gI a4), .int (gI a5)]) (st := [.int (gI 0), .ref (rh a6 k6_)]) C vL_15 kX6_best ⟨Nat.le_of_ble_eq_true rfl, Nat.le_of_ble_eq_true rfl⟩ ⟨Nat.le_of_ble_eq_true rfl, Nat.le_of_ble_eq_true rfl⟩ rfl hk0 ⟨_, _, rfl⟩ (by decide) rfl (Nat.le_of_ble_eq_true rfl) (mX6_best l D cy kd ln rh _ _ a0 a1 a2 a3 a4 a5 M hst hk0 h) dL_best_11 (fun M9 h => q_catch C hxt (by decide) (by decide) lkL (fun q9 => q_astore (x := q9) (lv' := [(7, .ref q9), (0, .ref (gad a0)), (1, .int (gI a1)), (2, .int (gI a2)), (3, .int (gI a3)), (4, .int (gI a4)), (5, .int (gI a5)), (6, .ref (rh a6 k6_))]) C (by decide) rfl dL_best_19 (q_iconst C dL_best_21 (hret 1 M9 _ _ 1 6 (by decide) (by decide) dL_best_22 (by decide) h)))) (fun c2 M1 g3 h => ?_)
  have h := h g3
  refine q_i2l C g3 dL_best_14 ?_
  obtain ⟨r4, h⟩ := h
  refine q_last C rfl hp6 (hq6 _ (rngL (BitVec.ofInt 64 c2))) r4 dL_best_15 ?_
  refine q_goto (tgt := 23) C (by decide) dL_best_16 ?_
  refine q_iconst C dL_best_23 ?_
  exact hret 0 (gu M1 a6 k6_ 0 ((BitVec.ofInt 64 c2).toNat)) _ _ 1 6 (by decide) (by decide) dL_best_24 (show rng 0 by decide) h
set_option maxHeartbeats 4000000 in
set_option maxRecDepth 100000 in
theorem mL_count (l : Launch) (D : va_G) (cy : Nat → ClassId) (kd : gKd) (ln : gLn) (rh : gRh) (post : Int → gM → Prop) (a0 : Int) (a1 : Int) (a2 : Int) (a3 : Int) (a4 : Int) (k4_ : Nat) (M : gM) (hst : l.stackTraces = false) (hk0 : kd a0 = 6) (hp4 : gak (kd a4) k4_ = 11) (hq4 : ∀ x, 0 ≤ x ∧ x < 18446744073709551616 → gRg (kd a4) k4_ x) (h : wL_count kd ln post a0 a1 a2 a3 a4 k4_ M) : gHI l D cy yL_count cL_count 6 [(0, 12, 15, 13)] 9 164 [.ref (gad a0), .int (gI a1), .int (gI a2), .int (gI a3), .ref (rh a4 k4_)] kd ln rh M post := by
  refine gHI_of (own := RL) (by decide) rfl (Nat.le_of_ble_eq_true rfl) ?_
  intro p e s m args below meth c A H0 Q C hxt hret
  unfold wL_count at h
  refine q_aload C 4 rfl dL_count_0 ?_
  refine q_iconst C dL_count_2 ?_
  refine q_aload_n C 0 rfl rfl dL_count_3 ?_
  refine q_iload_n C 1 rfl rfl dL_count_4 ?_
  refine q_iload_n C 2 rfl rfl dL_count_5 ?_
  refine q_iload_n C 3 rfl rfl dL_count_6 ?_
  refine q_callTI (As := [.int (gI a1), .int (gI a2), .int (gI a3)]) (st := [.int (gI 0), .ref (rh a4 k4_)]) C vL_28 kX6_count ⟨Nat.le_of_ble_eq_true rfl, Nat.le_of_ble_eq_true rfl⟩ ⟨Nat.le_of_ble_eq_true rfl, Nat.le_of_ble_eq_true rfl⟩ rfl hk0 ⟨_, _, rfl⟩ (by decide) rfl (Nat.le_of_ble_eq_true rfl) (mX6_count l D cy kd ln rh _ _ a0 a1 a2 a3 M hst hk0 h) dL_count_7 (fun M9 h => q_catch C hxt (by decide) (by decide) lkL (fun q9 => q_astore (x := q9) (lv' := [(5, .ref q9), (0, .ref (gad a0)), (1, .int (gI a1)), (2, .int (gI a2)), (3, .int (gI a3)), (4, .ref (rh a4 k4_))]) C (by decide) rfl dL_count_15 (q_iconst C dL_count_17 (hret 1 M9 _ _ 1 6 (by decide) (by decide) dL_count_18 (by decide) h)))) (fun c2 M1 g3 h => ?_)
  have h := h g3
  refine q_i2l C g3 dL_count_10 ?_
  obtain ⟨r4, h⟩ := h
  refine q_last C rfl hp4 (hq4 _ (rngL (BitVec.ofInt 64 c2))) r4 dL_count_11 ?_
  refine q_goto (tgt := 19) C (by decide) dL_count_12 ?_
  refine q_iconst C dL_count_19 ?_
  exact hret 0 (gu M1 a4 k4_ 0 ((BitVec.ofInt 64 c2).toNat)) _ _ 1 6 (by decide) (by decide) dL_count_20 (show rng 0 by decide) h
set_option maxHeartbeats 4000000 in
set_option maxRecDepth 100000 in
theorem mL_distance (l : Launch) (D : va_G) (cy : Nat → ClassId) (kd : gKd) (ln : gLn) (rh : gRh) (post : Int → gM → Prop) (a0 : Int) (a1 : Int) (a2 : Int) (a3 : Int) (a4 : Int) (a5 : Int) (a6 : Int) (k6_ : Nat) (M : gM) (hst : l.stackTraces = false) (hk0 : kd a0 = 6) (hp6 : gak (kd a6) k6_ = 11) (hq6 : ∀ x, 0 ≤ x ∧ x < 18446744073709551616 → gRg (kd a6) k6_ x) (h : wL_distance kd ln post a0 a1 a2 a3 a4 a5 a6 k6_ M) : gHI l D cy yL_distance cL_distance 8 [(0, 16, 19, 13)] 9 168 [.ref (gad a0), .int (gI a1), .int (gI a2), .int (gI a3), .int (gI a4), .int (gI a5), .ref (rh a6 k6_)] kd ln rh M post := by
  refine gHI_of (own := RL) (by decide) rfl (Nat.le_of_ble_eq_true rfl) ?_
  intro p e s m args below meth c A H0 Q C hxt hret
  unfold wL_distance at h
  refine q_aload C 6 rfl dL_distance_0 ?_
  refine q_iconst C dL_distance_2 ?_
  refine q_aload_n C 0 rfl rfl dL_distance_3 ?_
  refine q_iload_n C 1 rfl rfl dL_distance_4 ?_
  refine q_iload_n C 2 rfl rfl dL_distance_5 ?_
  refine q_iload_n C 3 rfl rfl dL_distance_6 ?_
  refine q_iload C 4 rfl dL_distance_7 ?_
  refine q_iload C 5 rfl dL_distance_9 ?_
  refine q_callTI (As := [.int (gI a1), .int (gI a2), .int (gI a3), .int (gI a4), .int (gI a5)]) (st := [.int (gI 0), .ref (rh a6 k6_)]) C vL_7 kX6_distance ⟨Nat.le_of_ble_eq_true rfl, Nat.le_of_ble_eq_true rfl⟩ ⟨Nat.le_of_ble_eq_true rfl, Nat.le_of_ble_eq_true rfl⟩ rfl hk0 ⟨_, _, rfl⟩ (by decide) rfl (Nat.le_of_ble_eq_true rfl) (mX6_distance l D cy kd ln rh _ _ a0 a1 a2 a3 a4 a5 M hst hk0 h) dL_distance_11 (fun M9 h => q_catch C hxt (by decide) (by decide) lkL (fun q9 => q_astore (x := q9) (lv' := [(7, .ref q9), (0, .ref (gad a0)), (1, .int (gI a1)), (2, .int (gI a2)), (3, .int (gI a3)), (4, .int (gI a4)), (5, .int (gI a5)), (6, .ref (rh a6 k6_))]) C (by decide) rfl dL_distance_19 (q_iconst C dL_distance_21 (hret 1 M9 _ _ 1 6 (by decide) (by decide) dL_distance_22 (by decide) h)))) (fun c2 M1 g3 h => ?_)
  have h := h g3
  refine q_i2l C g3 dL_distance_14 ?_
  obtain ⟨r4, h⟩ := h
  refine q_last C rfl hp6 (hq6 _ (rngL (BitVec.ofInt 64 c2))) r4 dL_distance_15 ?_
  refine q_goto (tgt := 23) C (by decide) dL_distance_16 ?_
  refine q_iconst C dL_distance_23 ?_
  exact hret 0 (gu M1 a6 k6_ 0 ((BitVec.ofInt 64 c2).toNat)) _ _ 1 6 (by decide) (by decide) dL_distance_24 (show rng 0 by decide) h
set_option maxHeartbeats 4000000 in
set_option maxRecDepth 100000 in
theorem mL_line (l : Launch) (D : va_G) (cy : Nat → ClassId) (kd : gKd) (ln : gLn) (rh : gRh) (post : Int → gM → Prop) (a0 : Int) (a1 : Int) (a2 : Int) (a3 : Int) (a4 : Int) (a5 : Int) (a6 : Int) (k6_ : Nat) (M : gM) (hst : l.stackTraces = false) (hk0 : kd a0 = 6) (hp6 : gak (kd a6) k6_ = 11) (hq6 : ∀ x, 0 ≤ x ∧ x < 18446744073709551616 → gRg (kd a6) k6_ x) (h : wL_line kd ln post a0 a1 a2 a3 a4 a5 a6 k6_ M) : gHI l D cy yL_line cL_line 8 [(0, 16, 19, 13)] 9 201 [.ref (gad a0), .int (gI a1), .int (gI a2), .int (gI a3), .int (gI a4), .int (gI a5), .ref (rh a6 k6_)] kd ln rh M post := by
  refine gHI_of (own := RL) (by decide) rfl (Nat.le_of_ble_eq_true rfl) ?_
  intro p e s m args below meth c A H0 Q C hxt hret
  unfold wL_line at h
  refine q_aload C 6 rfl dL_line_0 ?_
  refine q_iconst C dL_line_2 ?_
  refine q_aload_n C 0 rfl rfl dL_line_3 ?_
  refine q_iload_n C 1 rfl rfl dL_line_4 ?_
  refine q_iload_n C 2 rfl rfl dL_line_5 ?_
  refine q_iload_n C 3 rfl rfl dL_line_6 ?_
  refine q_iload C 4 rfl dL_line_7 ?_
  refine q_iload C 5 rfl dL_line_9 ?_
  refine q_callTI (As := [.int (gI a1), .int (gI a2), .int (gI a3), .int (gI a4), .int (gI a5)]) (st := [.int (gI 0), .ref (rh a6 k6_)]) C vL_18 kX6_line ⟨Nat.le_of_ble_eq_true rfl, Nat.le_of_ble_eq_true rfl⟩ ⟨Nat.le_of_ble_eq_true rfl, Nat.le_of_ble_eq_true rfl⟩ rfl hk0 ⟨_, _, rfl⟩ (by decide) rfl (Nat.le_of_ble_eq_true rfl) (mX6_line l D cy kd ln rh _ _ a0 a1 a2 a3 a4 a5 M hst hk0 h) dL_line_11 (fun M9 h => q_catch C hxt (by decide) (by decide) lkL (fun q9 => q_astore (x := q9) (lv' := [(7, .ref q9), (0, .ref (gad a0)), (1, .int (gI a1)), (2, .int (gI a2)), (3, .int (gI a3)), (4, .int (gI a4)), (5, .int (gI a5)), (6, .ref (rh a6 k6_))]) C (by decide) rfl dL_line_19 (q_iconst C dL_line_21 (hret 1 M9 _ _ 1 6 (by decide) (by decide) dL_line_22 (by decide) h)))) (fun c2 M1 g3 h => ?_)
  have h := h g3
  refine q_i2l C g3 dL_line_14 ?_
  obtain ⟨r4, h⟩ := h
  refine q_last C rfl hp6 (hq6 _ (rngL (BitVec.ofInt 64 c2))) r4 dL_line_15 ?_
  refine q_goto (tgt := 23) C (by decide) dL_line_16 ?_
  refine q_iconst C dL_line_23 ?_
  exact hret 0 (gu M1 a6 k6_ 0 ((BitVec.ofInt 64 c2).toNat)) _ _ 1 6 (by decide) (by decide) dL_line_24 (show rng 0 by decide) h
set_option maxHeartbeats 4000000 in
set_option maxRecDepth 100000 in
theorem mL_number (l : Launch) (D : va_G) (cy : Nat → ClassId) (kd : gKd) (ln : gLn) (rh : gRh) (post : Int → gM → Prop) (a0 : Int) (a1 : Int) (a2 : Int) (a3 : Int) (a4 : Int) (a5 : Int) (a6 : Int) (k6_ : Nat) (M : gM) (hst : l.stackTraces = false) (hk0 : kd a0 = 6) (hp6 : gak (kd a6) k6_ = 11) (hq6 : ∀ x, 0 ≤ x ∧ x < 18446744073709551616 → gRg (kd a6) k6_ x) (h : wL_number kd ln post a0 a1 a2 a3 a4 a5 a6 k6_ M) : gHI l D cy yL_number cL_number 8 [(0, 16, 19, 13)] 9 168 [.ref (gad a0), .int (gI a1), .int (gI a2), .int (gI a3), .int (gI a4), .int (gI a5), .ref (rh a6 k6_)] kd ln rh M post := by
  refine gHI_of (own := RL) (by decide) rfl (Nat.le_of_ble_eq_true rfl) ?_
  intro p e s m args below meth c A H0 Q C hxt hret
  unfold wL_number at h
  refine q_aload C 6 rfl dL_number_0 ?_
  refine q_iconst C dL_number_2 ?_
  refine q_aload_n C 0 rfl rfl dL_number_3 ?_
  refine q_iload_n C 1 rfl rfl dL_number_4 ?_
  refine q_iload_n C 2 rfl rfl dL_number_5 ?_
  refine q_iload_n C 3 rfl rfl dL_number_6 ?_
  refine q_iload C 4 rfl dL_number_7 ?_
  refine q_iload C 5 rfl dL_number_9 ?_
  refine q_callTI (As := [.int (gI a1), .int (gI a2), .int (gI a3), .int (gI a4), .int (gI a5)]) (st := [.int (gI 0), .ref (rh a6 k6_)]) C vL_21 kX6_number ⟨Nat.le_of_ble_eq_true rfl, Nat.le_of_ble_eq_true rfl⟩ ⟨Nat.le_of_ble_eq_true rfl, Nat.le_of_ble_eq_true rfl⟩ rfl hk0 ⟨_, _, rfl⟩ (by decide) rfl (Nat.le_of_ble_eq_true rfl) (mX6_number l D cy kd ln rh _ _ a0 a1 a2 a3 a4 a5 M hst hk0 h) dL_number_11 (fun M9 h => q_catch C hxt (by decide) (by decide) lkL (fun q9 => q_astore (x := q9) (lv' := [(7, .ref q9), (0, .ref (gad a0)), (1, .int (gI a1)), (2, .int (gI a2)), (3, .int (gI a3)), (4, .int (gI a4)), (5, .int (gI a5)), (6, .ref (rh a6 k6_))]) C (by decide) rfl dL_number_19 (q_iconst C dL_number_21 (hret 1 M9 _ _ 1 6 (by decide) (by decide) dL_number_22 (by decide) h)))) (fun c2 M1 g3 h => ?_)
  have h := h g3
  refine q_i2l C g3 dL_number_14 ?_
  obtain ⟨r4, h⟩ := h
  refine q_last C rfl hp6 (hq6 _ (rngL (BitVec.ofInt 64 c2))) r4 dL_number_15 ?_
  refine q_goto (tgt := 23) C (by decide) dL_number_16 ?_
  refine q_iconst C dL_number_23 ?_
  exact hret 0 (gu M1 a6 k6_ 0 ((BitVec.ofInt 64 c2).toNat)) _ _ 1 6 (by decide) (by decide) dL_number_24 (show rng 0 by decide) h
set_option maxHeartbeats 4000000 in
set_option maxRecDepth 100000 in
theorem mL_position (l : Launch) (D : va_G) (cy : Nat → ClassId) (kd : gKd) (ln : gLn) (rh : gRh) (post : Int → gM → Prop) (a0 : Int) (a1 : Int) (a2 : Int) (a3 : Int) (a4 : Int) (k4_ : Nat) (M : gM) (hst : l.stackTraces = false) (hk0 : kd a0 = 6) (hp4 : gak (kd a4) k4_ = 11) (hq4 : ∀ x, 0 ≤ x ∧ x < 18446744073709551616 → gRg (kd a4) k4_ x) (h : wL_position kd ln post a0 a1 a2 a3 a4 k4_ M) : gHI l D cy yL_position cL_position 6 [(0, 12, 15, 13)] 8 143 [.ref (gad a0), .int (gI a1), .int (gI a2), .int (gI a3), .ref (rh a4 k4_)] kd ln rh M post := by
  refine gHI_of (own := RL) (by decide) rfl (Nat.le_of_ble_eq_true rfl) ?_
  intro p e s m args below meth c A H0 Q C hxt hret
  unfold wL_position at h
  refine q_aload C 4 rfl dL_position_0 ?_
  refine q_iconst C dL_position_2 ?_
  refine q_aload_n C 0 rfl rfl dL_position_3 ?_
  refine q_iload_n C 1 rfl rfl dL_position_4 ?_
  refine q_iload_n C 2 rfl rfl dL_position_5 ?_
  refine q_iload_n C 3 rfl rfl dL_position_6 ?_
  refine q_callTI (As := [.int (gI a1), .int (gI a2), .int (gI a3)]) (st := [.int (gI 0), .ref (rh a4 k4_)]) C vL_24 kX6_position ⟨Nat.le_of_ble_eq_true rfl, Nat.le_of_ble_eq_true rfl⟩ ⟨Nat.le_of_ble_eq_true rfl, Nat.le_of_ble_eq_true rfl⟩ rfl hk0 ⟨_, _, rfl⟩ (by decide) rfl (Nat.le_of_ble_eq_true rfl) (mX6_position l D cy kd ln rh _ _ a0 a1 a2 a3 M hst hk0 h) dL_position_7 (fun M9 h => q_catch C hxt (by decide) (by decide) lkL (fun q9 => q_astore (x := q9) (lv' := [(5, .ref q9), (0, .ref (gad a0)), (1, .int (gI a1)), (2, .int (gI a2)), (3, .int (gI a3)), (4, .ref (rh a4 k4_))]) C (by decide) rfl dL_position_15 (q_iconst C dL_position_17 (hret 1 M9 _ _ 1 6 (by decide) (by decide) dL_position_18 (by decide) h)))) (fun c2 M1 g3 h => ?_)
  have h := h g3
  refine q_i2l C g3 dL_position_10 ?_
  obtain ⟨r4, h⟩ := h
  refine q_last C rfl hp4 (hq4 _ (rngL (BitVec.ofInt 64 c2))) r4 dL_position_11 ?_
  refine q_goto (tgt := 19) C (by decide) dL_position_12 ?_
  refine q_iconst C dL_position_19 ?_
  exact hret 0 (gu M1 a4 k4_ 0 ((BitVec.ofInt 64 c2).toNat)) _ _ 1 6 (by decide) (by decide) dL_position_20 (show rng 0 by decide) h
set_option maxHeartbeats 4000000 in
set_option maxRecDepth 100000 in
theorem mL_longest (l : Launch) (D : va_G) (cy : Nat → ClassId) (kd : gKd) (ln : gLn) (rh : gRh) (post : Int → gM → Prop) (a0 : Int) (a1 : Int) (a2 : Int) (a3 : Int) (a4 : Int) (k4_ : Nat) (M : gM) (hst : l.stackTraces = false) (hk0 : kd a0 = 6) (hp4 : gak (kd a4) k4_ = 11) (hq4 : ∀ x, 0 ≤ x ∧ x < 18446744073709551616 → gRg (kd a4) k4_ x) (h : wL_longest kd ln post a0 a1 a2 a3 a4 k4_ M) : gHI l D cy yL_longest cL_longest 6 [(0, 12, 15, 13)] 9 164 [.ref (gad a0), .int (gI a1), .int (gI a2), .int (gI a3), .ref (rh a4 k4_)] kd ln rh M post := by
  refine gHI_of (own := RL) (by decide) rfl (Nat.le_of_ble_eq_true rfl) ?_
  intro p e s m args below meth c A H0 Q C hxt hret
  unfold wL_longest at h
  refine q_aload C 4 rfl dL_longest_0 ?_
  refine q_iconst C dL_longest_2 ?_
  refine q_aload_n C 0 rfl rfl dL_longest_3 ?_
  refine q_iload_n C 1 rfl rfl dL_longest_4 ?_
  refine q_iload_n C 2 rfl rfl dL_longest_5 ?_
  refine q_iload_n C 3 rfl rfl dL_longest_6 ?_
  refine q_callTI (As := [.int (gI a1), .int (gI a2), .int (gI a3)]) (st := [.int (gI 0), .ref (rh a4 k4_)]) C vL_31 kX6_longest ⟨Nat.le_of_ble_eq_true rfl, Nat.le_of_ble_eq_true rfl⟩ ⟨Nat.le_of_ble_eq_true rfl, Nat.le_of_ble_eq_true rfl⟩ rfl hk0 ⟨_, _, rfl⟩ (by decide) rfl (Nat.le_of_ble_eq_true rfl) (mX6_longest l D cy kd ln rh _ _ a0 a1 a2 a3 M hst hk0 h) dL_longest_7 (fun M9 h => q_catch C hxt (by decide) (by decide) lkL (fun q9 => q_astore (x := q9) (lv' := [(5, .ref q9), (0, .ref (gad a0)), (1, .int (gI a1)), (2, .int (gI a2)), (3, .int (gI a3)), (4, .ref (rh a4 k4_))]) C (by decide) rfl dL_longest_15 (q_iconst C dL_longest_17 (hret 1 M9 _ _ 1 6 (by decide) (by decide) dL_longest_18 (by decide) h)))) (fun c2 M1 g3 h => ?_)
  have h := h g3
  refine q_i2l C g3 dL_longest_10 ?_
  obtain ⟨r4, h⟩ := h
  refine q_last C rfl hp4 (hq4 _ (rngL (BitVec.ofInt 64 c2))) r4 dL_longest_11 ?_
  refine q_goto (tgt := 19) C (by decide) dL_longest_12 ?_
  refine q_iconst C dL_longest_19 ?_
  exact hret 0 (gu M1 a4 k4_ 0 ((BitVec.ofInt 64 c2).toNat)) _ _ 1 6 (by decide) (by decide) dL_longest_20 (show rng 0 by decide) h
