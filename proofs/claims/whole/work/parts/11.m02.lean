set_option maxHeartbeats 4000000 in
set_option maxRecDepth 100000 in
theorem mX7_init (l : Launch) (D : va_G) (cy : Nat → ClassId) (mc ms : Nat) (kd : gKd) (ln : gLn) (rh : gRh) (post : gKd → gLn → gM → Prop) (a0 : Int) (M : gM) (hk0 : kd a0 = 7) (h : wX7_init mc ms kd ln post a0 M) : gXV l D cy yX7_init cX7_init 1 1 32 mc ms [.ref (gad a0)] kd ln rh M post := by
  refine gXV_of (own := RX7) (by decide) rfl (Nat.le_of_ble_eq_true rfl) ?_
  intro p e s m args below meth c A H0 Q C hin hret
  unfold wX7_init at h
  refine q_aload_n C 0 rfl rfl dX7_init_0 ?_
  refine q_objInit (o := a0) C obX7_1 (Nat.le_of_ble_eq_true rfl) (Nat.le_of_ble_eq_true rfl) dX7_init_1 ?_
  refine q_aload_n C 0 rfl rfl dX7_init_4 ?_
  refine q_bipush C (by decide) dX7_init_5 ?_
  refine q_put (x := 8) (ty := .int) C fX7_7 hk0 (fun _ _ _ q => by cases q; rfl) (congrArg (fun z => Value.int (gI z)) gu_s) rfl rfl (show rng 8 by decide) (fun j q => absurd (show (0 : Nat) = j + 3 from q) (by omega)) dX7_init_7 ?_
  refine q_aload_n C 0 rfl rfl dX7_init_10 ?_
  refine q_bipush C (by decide) dX7_init_11 ?_
  refine q_put (x := 64) (ty := .int) C fX7_13 hk0 (fun _ _ _ q => by cases q; rfl) (congrArg (fun z => Value.int (gI z)) gu_s) rfl rfl (show rng 64 by decide) (fun j q => absurd (show (0 : Nat) = j + 3 from q) (by omega)) dX7_init_13 ?_
  refine q_aload_n C 0 rfl rfl dX7_init_16 ?_
  refine q_iconst C dX7_init_17 ?_
  obtain ⟨r1, h⟩ := h
  obtain ⟨r2, h⟩ := h
  refine q_newput (t0 := 2) (ty := .boolean) C hin fX7_16 (fun _ _ _ q => by cases q; rfl) hk0 rfl rfl ac10 rfl (fun _ => rfl) (fun _ _ _ => rfl) (fun _ _ _ q => by cases q; rfl) r1 (show 0 ≤ (3 : Int) ∧ (3 : Int) ≤ 67108864 by decide) (by decide) r2.1 r2.2 dX7_init_18 dX7_init_20 (fun ln3 rh4 e5 kn6 => ?_)
  have h := h ln3 e5
  have kp7 := gKp_t gKp_r kn6
  refine q_aload_n C 0 rfl rfl dX7_init_23 ?_
  refine q_ldc (n := 1572864) C nX7_20 (by decide) dX7_init_24 ?_
  obtain ⟨r8, h⟩ := h
  obtain ⟨r9, h⟩ := h
  refine q_newput (t0 := 1) (ty := .byte) C hin fX7_21 (fun _ _ _ q => by cases q; rfl) (gKp_k kn6 hk0 (by decide)) rfl rfl ac9 rfl (fun _ => rfl) (fun _ _ _ => rfl) (fun _ _ _ q => by cases q; rfl) r8 (show 0 ≤ (1572864 : Int) ∧ (1572864 : Int) ≤ 67108864 by decide) (by decide) r9.1 r9.2 dX7_init_26 dX7_init_28 (fun ln10 rh11 e12 kn13 => ?_)
  have h := h ln10 e12
  have kp14 := gKp_t kp7 kn13
  refine q_aload_n C 0 rfl rfl dX7_init_31 ?_
  refine q_ldc (n := 49152) C nX7_25 (by decide) dX7_init_32 ?_
  obtain ⟨r15, h⟩ := h
  obtain ⟨r16, h⟩ := h
  refine q_newput (t0 := 0) (ty := .int) C hin fX7_26 (fun _ _ _ q => by cases q; rfl) (gKp_k kn13 (gKp_k kn6 hk0 (by decide)) (by decide)) rfl rfl ac8 rfl (fun _ => rfl) (fun _ _ _ => rfl) (fun _ _ _ q => by cases q; rfl) r15 (show 0 ≤ (49152 : Int) ∧ (49152 : Int) ≤ 67108864 by decide) (by decide) r16.1 r16.2 dX7_init_34 dX7_init_36 (fun ln17 rh18 e19 kn20 => ?_)
  have h := h ln17 e19
  have kp21 := gKp_t kp14 kn20
  refine q_aload_n C 0 rfl rfl dX7_init_39 ?_
  refine q_ldc (n := 49152) C nX7_25 (by decide) dX7_init_40 ?_
  obtain ⟨r22, h⟩ := h
  obtain ⟨r23, h⟩ := h
  refine q_newput (t0 := 0) (ty := .int) C hin fX7_30 (fun _ _ _ q => by cases q; rfl) (gKp_k kn20 (gKp_k kn13 (gKp_k kn6 hk0 (by decide)) (by decide)) (by decide)) rfl rfl ac8 rfl (fun _ => rfl) (fun _ _ _ => rfl) (fun _ _ _ q => by cases q; rfl) r22 (show 0 ≤ (49152 : Int) ∧ (49152 : Int) ≤ 67108864 by decide) (by decide) r23.1 r23.2 dX7_init_42 dX7_init_44 (fun ln24 rh25 e26 kn27 => ?_)
  have h := h ln24 e26
  have kp28 := gKp_t kp21 kn27
  refine q_aload_n C 0 rfl rfl dX7_init_47 ?_
  refine q_iconst C dX7_init_48 ?_
  obtain ⟨r29, h⟩ := h
  obtain ⟨r30, h⟩ := h
  refine q_newput (t0 := 0) (ty := .int) C hin fX7_33 (fun _ _ _ q => by cases q; rfl) (gKp_k kn27 (gKp_k kn20 (gKp_k kn13 (gKp_k kn6 hk0 (by decide)) (by decide)) (by decide)) (by decide)) rfl rfl ac8 rfl (fun _ => rfl) (fun _ _ _ => rfl) (fun _ _ _ q => by cases q; rfl) r29 (show 0 ≤ (3 : Int) ∧ (3 : Int) ≤ 67108864 by decide) (by decide) r30.1 r30.2 dX7_init_49 dX7_init_51 (fun ln31 rh32 e33 kn34 => ?_)
  have h := h ln31 e33
  have kp35 := gKp_t kp28 kn34
  refine q_aload_n C 0 rfl rfl dX7_init_54 ?_
  refine q_bipush C (by decide) dX7_init_55 ?_
  obtain ⟨r36, h⟩ := h
  obtain ⟨r37, h⟩ := h
  refine q_newput (t0 := 1) (ty := .byte) C hin fX7_36 (fun _ _ _ q => by cases q; rfl) (gKp_k kn34 (gKp_k kn27 (gKp_k kn20 (gKp_k kn13 (gKp_k kn6 hk0 (by decide)) (by decide)) (by decide)) (by decide)) (by decide)) rfl rfl ac9 rfl (fun _ => rfl) (fun _ _ _ => rfl) (fun _ _ _ q => by cases q; rfl) r36 (show 0 ≤ (40 : Int) ∧ (40 : Int) ≤ 67108864 by decide) (by decide) r37.1 r37.2 dX7_init_57 dX7_init_59 (fun ln38 rh39 e40 kn41 => ?_)
  have h := h ln38 e40
  have kp42 := gKp_t kp35 kn41
  refine q_aload_n C 0 rfl rfl dX7_init_62 ?_
  refine q_bipush C (by decide) dX7_init_63 ?_
  obtain ⟨r43, h⟩ := h
  obtain ⟨r44, h⟩ := h
  refine q_newput (t0 := 1) (ty := .byte) C hin fX7_39 (fun _ _ _ q => by cases q; rfl) (gKp_k kn41 (gKp_k kn34 (gKp_k kn27 (gKp_k kn20 (gKp_k kn13 (gKp_k kn6 hk0 (by decide)) (by decide)) (by decide)) (by decide)) (by decide)) (by decide)) rfl rfl ac9 rfl (fun _ => rfl) (fun _ _ _ => rfl) (fun _ _ _ q => by cases q; rfl) r43 (show 0 ≤ (20 : Int) ∧ (20 : Int) ≤ 67108864 by decide) (by decide) r44.1 r44.2 dX7_init_65 dX7_init_67 (fun ln45 rh46 e47 kn48 => ?_)
  have h := h ln45 e47
  have kp49 := gKp_t kp42 kn48
  refine q_aload_n C 0 rfl rfl dX7_init_70 ?_
  refine q_bipush C (by decide) dX7_init_71 ?_
  obtain ⟨r50, h⟩ := h
  obtain ⟨r51, h⟩ := h
  refine q_newput (t0 := 0) (ty := .int) C hin fX7_42 (fun _ _ _ q => by cases q; rfl) (gKp_k kn48 (gKp_k kn41 (gKp_k kn34 (gKp_k kn27 (gKp_k kn20 (gKp_k kn13 (gKp_k kn6 hk0 (by decide)) (by decide)) (by decide)) (by decide)) (by decide)) (by decide)) (by decide)) rfl rfl ac8 rfl (fun _ => rfl) (fun _ _ _ => rfl) (fun _ _ _ q => by cases q; rfl) r50 (show 0 ≤ (48 : Int) ∧ (48 : Int) ≤ 67108864 by decide) (by decide) r51.1 r51.2 dX7_init_73 dX7_init_75 (fun ln52 rh53 e54 kn55 => ?_)
  have h := h ln52 e54
  have kp56 := gKp_t kp49 kn55
  refine q_aload_n C 0 rfl rfl dX7_init_78 ?_
  refine q_bipush C (by decide) dX7_init_79 ?_
  obtain ⟨r57, h⟩ := h
  obtain ⟨r58, h⟩ := h
  refine q_newput (t0 := 0) (ty := .int) C hin fX7_45 (fun _ _ _ q => by cases q; rfl) (gKp_k kn55 (gKp_k kn48 (gKp_k kn41 (gKp_k kn34 (gKp_k kn27 (gKp_k kn20 (gKp_k kn13 (gKp_k kn6 hk0 (by decide)) (by decide)) (by decide)) (by decide)) (by decide)) (by decide)) (by decide)) (by decide)) rfl rfl ac8 rfl (fun _ => rfl) (fun _ _ _ => rfl) (fun _ _ _ q => by cases q; rfl) r57 (show 0 ≤ (48 : Int) ∧ (48 : Int) ≤ 67108864 by decide) (by decide) r58.1 r58.2 dX7_init_81 dX7_init_83 (fun ln59 rh60 e61 kn62 => ?_)
  have h := h ln59 e61
  have kp63 := gKp_t kp56 kn62
  refine q_aload_n C 0 rfl rfl dX7_init_86 ?_
  refine q_bipush C (by decide) dX7_init_87 ?_
  obtain ⟨r64, h⟩ := h
  obtain ⟨r65, h⟩ := h
  refine q_newput (t0 := 0) (ty := .int) C hin fX7_48 (fun _ _ _ q => by cases q; rfl) (gKp_k kn62 (gKp_k kn55 (gKp_k kn48 (gKp_k kn41 (gKp_k kn34 (gKp_k kn27 (gKp_k kn20 (gKp_k kn13 (gKp_k kn6 hk0 (by decide)) (by decide)) (by decide)) (by decide)) (by decide)) (by decide)) (by decide)) (by decide)) (by decide)) rfl rfl ac8 rfl (fun _ => rfl) (fun _ _ _ => rfl) (fun _ _ _ q => by cases q; rfl) r64 (show 0 ≤ (48 : Int) ∧ (48 : Int) ≤ 67108864 by decide) (by decide) r65.1 r65.2 dX7_init_89 dX7_init_91 (fun ln66 rh67 e68 kn69 => ?_)
  have h := h ln66 e68
  have kp70 := gKp_t kp63 kn69
  refine q_aload_n C 0 rfl rfl dX7_init_94 ?_
  refine q_bipush C (by decide) dX7_init_95 ?_
  obtain ⟨r71, h⟩ := h
  obtain ⟨r72, h⟩ := h
  refine q_newput (t0 := 0) (ty := .int) C hin fX7_51 (fun _ _ _ q => by cases q; rfl) (gKp_k kn69 (gKp_k kn62 (gKp_k kn55 (gKp_k kn48 (gKp_k kn41 (gKp_k kn34 (gKp_k kn27 (gKp_k kn20 (gKp_k kn13 (gKp_k kn6 hk0 (by decide)) (by decide)) (by decide)) (by decide)) (by decide)) (by decide)) (by decide)) (by decide)) (by decide)) (by decide)) rfl rfl ac8 rfl (fun _ => rfl) (fun _ _ _ => rfl) (fun _ _ _ q => by cases q; rfl) r71 (show 0 ≤ (48 : Int) ∧ (48 : Int) ≤ 67108864 by decide) (by decide) r72.1 r72.2 dX7_init_97 dX7_init_99 (fun ln73 rh74 e75 kn76 => ?_)
  have h := h ln73 e75
  have kp77 := gKp_t kp70 kn76
  refine q_aload_n C 0 rfl rfl dX7_init_102 ?_
  refine q_bipush C (by decide) dX7_init_103 ?_
  obtain ⟨r78, h⟩ := h
  obtain ⟨r79, h⟩ := h
  refine q_newput (t0 := 0) (ty := .int) C hin fX7_54 (fun _ _ _ q => by cases q; rfl) (gKp_k kn76 (gKp_k kn69 (gKp_k kn62 (gKp_k kn55 (gKp_k kn48 (gKp_k kn41 (gKp_k kn34 (gKp_k kn27 (gKp_k kn20 (gKp_k kn13 (gKp_k kn6 hk0 (by decide)) (by decide)) (by decide)) (by decide)) (by decide)) (by decide)) (by decide)) (by decide)) (by decide)) (by decide)) (by decide)) rfl rfl ac8 rfl (fun _ => rfl) (fun _ _ _ => rfl) (fun _ _ _ q => by cases q; rfl) r78 (show 0 ≤ (48 : Int) ∧ (48 : Int) ≤ 67108864 by decide) (by decide) r79.1 r79.2 dX7_init_105 dX7_init_107 (fun ln80 rh81 e82 kn83 => ?_)
  have h := h ln80 e82
  have kp84 := gKp_t kp77 kn83
  refine q_aload_n C 0 rfl rfl dX7_init_110 ?_
  refine q_bipush C (by decide) dX7_init_111 ?_
  obtain ⟨r85, h⟩ := h
  obtain ⟨r86, h⟩ := h
  refine q_newput (t0 := 0) (ty := .int) C hin fX7_57 (fun _ _ _ q => by cases q; rfl) (gKp_k kn83 (gKp_k kn76 (gKp_k kn69 (gKp_k kn62 (gKp_k kn55 (gKp_k kn48 (gKp_k kn41 (gKp_k kn34 (gKp_k kn27 (gKp_k kn20 (gKp_k kn13 (gKp_k kn6 hk0 (by decide)) (by decide)) (by decide)) (by decide)) (by decide)) (by decide)) (by decide)) (by decide)) (by decide)) (by decide)) (by decide)) (by decide)) rfl rfl ac8 rfl (fun _ => rfl) (fun _ _ _ => rfl) (fun _ _ _ q => by cases q; rfl) r85 (show 0 ≤ (48 : Int) ∧ (48 : Int) ≤ 67108864 by decide) (by decide) r86.1 r86.2 dX7_init_113 dX7_init_115 (fun ln87 rh88 e89 kn90 => ?_)
  have h := h ln87 e89
  have kp91 := gKp_t kp84 kn90
  refine q_aload_n C 0 rfl rfl dX7_init_118 ?_
  refine q_bipush C (by decide) dX7_init_119 ?_
  obtain ⟨r92, h⟩ := h
  obtain ⟨r93, h⟩ := h
  refine q_newput (t0 := 0) (ty := .int) C hin fX7_60 (fun _ _ _ q => by cases q; rfl) (gKp_k kn90 (gKp_k kn83 (gKp_k kn76 (gKp_k kn69 (gKp_k kn62 (gKp_k kn55 (gKp_k kn48 (gKp_k kn41 (gKp_k kn34 (gKp_k kn27 (gKp_k kn20 (gKp_k kn13 (gKp_k kn6 hk0 (by decide)) (by decide)) (by decide)) (by decide)) (by decide)) (by decide)) (by decide)) (by decide)) (by decide)) (by decide)) (by decide)) (by decide)) (by decide)) rfl rfl ac8 rfl (fun _ => rfl) (fun _ _ _ => rfl) (fun _ _ _ q => by cases q; rfl) r92 (show 0 ≤ (48 : Int) ∧ (48 : Int) ≤ 67108864 by decide) (by decide) r93.1 r93.2 dX7_init_121 dX7_init_123 (fun ln94 rh95 e96 kn97 => ?_)
  have h := h ln94 e96
  have kp98 := gKp_t kp91 kn97
  refine q_aload_n C 0 rfl rfl dX7_init_126 ?_
  refine q_bipush C (by decide) dX7_init_127 ?_
  obtain ⟨r99, h⟩ := h
  obtain ⟨r100, h⟩ := h
  refine q_newput (t0 := 0) (ty := .int) C hin fX7_63 (fun _ _ _ q => by cases q; rfl) (gKp_k kn97 (gKp_k kn90 (gKp_k kn83 (gKp_k kn76 (gKp_k kn69 (gKp_k kn62 (gKp_k kn55 (gKp_k kn48 (gKp_k kn41 (gKp_k kn34 (gKp_k kn27 (gKp_k kn20 (gKp_k kn13 (gKp_k kn6 hk0 (by decide)) (by decide)) (by decide)) (by decide)) (by decide)) (by decide)) (by decide)) (by decide)) (by decide)) (by decide)) (by decide)) (by decide)) (by decide)) (by decide)) rfl rfl ac8 rfl (fun _ => rfl) (fun _ _ _ => rfl) (fun _ _ _ q => by cases q; rfl) r99 (show 0 ≤ (48 : Int) ∧ (48 : Int) ≤ 67108864 by decide) (by decide) r100.1 r100.2 dX7_init_129 dX7_init_131 (fun ln101 rh102 e103 kn104 => ?_)
  have h := h ln101 e103
  have kp105 := gKp_t kp98 kn104
  refine q_aload_n C 0 rfl rfl dX7_init_134 ?_
  refine q_bipush C (by decide) dX7_init_135 ?_
  obtain ⟨r106, h⟩ := h
  obtain ⟨r107, h⟩ := h
  refine q_newput (t0 := 0) (ty := .int) C hin fX7_66 (fun _ _ _ q => by cases q; rfl) (gKp_k kn104 (gKp_k kn97 (gKp_k kn90 (gKp_k kn83 (gKp_k kn76 (gKp_k kn69 (gKp_k kn62 (gKp_k kn55 (gKp_k kn48 (gKp_k kn41 (gKp_k kn34 (gKp_k kn27 (gKp_k kn20 (gKp_k kn13 (gKp_k kn6 hk0 (by decide)) (by decide)) (by decide)) (by decide)) (by decide)) (by decide)) (by decide)) (by decide)) (by decide)) (by decide)) (by decide)) (by decide)) (by decide)) (by decide)) (by decide)) rfl rfl ac8 rfl (fun _ => rfl) (fun _ _ _ => rfl) (fun _ _ _ q => by cases q; rfl) r106 (show 0 ≤ (48 : Int) ∧ (48 : Int) ≤ 67108864 by decide) (by decide) r107.1 r107.2 dX7_init_137 dX7_init_139 (fun ln108 rh109 e110 kn111 => ?_)
  have h := h ln108 e110
  have kp112 := gKp_t kp105 kn111
  refine q_aload_n C 0 rfl rfl dX7_init_142 ?_
  refine q_bipush C (by decide) dX7_init_143 ?_
  obtain ⟨r113, h⟩ := h
  obtain ⟨r114, h⟩ := h
  refine q_newput (t0 := 0) (ty := .int) C hin fX7_69 (fun _ _ _ q => by cases q; rfl) (gKp_k kn111 (gKp_k kn104 (gKp_k kn97 (gKp_k kn90 (gKp_k kn83 (gKp_k kn76 (gKp_k kn69 (gKp_k kn62 (gKp_k kn55 (gKp_k kn48 (gKp_k kn41 (gKp_k kn34 (gKp_k kn27 (gKp_k kn20 (gKp_k kn13 (gKp_k kn6 hk0 (by decide)) (by decide)) (by decide)) (by decide)) (by decide)) (by decide)) (by decide)) (by decide)) (by decide)) (by decide)) (by decide)) (by decide)) (by decide)) (by decide)) (by decide)) (by decide)) rfl rfl ac8 rfl (fun _ => rfl) (fun _ _ _ => rfl) (fun _ _ _ q => by cases q; rfl) r113 (show 0 ≤ (48 : Int) ∧ (48 : Int) ≤ 67108864 by decide) (by decide) r114.1 r114.2 dX7_init_145 dX7_init_147 (fun ln115 rh116 e117 kn118 => ?_)
  have h := h ln115 e117
  have kp119 := gKp_t kp112 kn118
  refine q_aload_n C 0 rfl rfl dX7_init_150 ?_
  refine q_bipush C (by decide) dX7_init_151 ?_
  obtain ⟨r120, h⟩ := h
  obtain ⟨r121, h⟩ := h
  refine q_newput (t0 := 0) (ty := .int) C hin fX7_72 (fun _ _ _ q => by cases q; rfl) (gKp_k kn118 (gKp_k kn111 (gKp_k kn104 (gKp_k kn97 (gKp_k kn90 (gKp_k kn83 (gKp_k kn76 (gKp_k kn69 (gKp_k kn62 (gKp_k kn55 (gKp_k kn48 (gKp_k kn41 (gKp_k kn34 (gKp_k kn27 (gKp_k kn20 (gKp_k kn13 (gKp_k kn6 hk0 (by decide)) (by decide)) (by decide)) (by decide)) (by decide)) (by decide)) (by decide)) (by decide)) (by decide)) (by decide)) (by decide)) (by decide)) (by decide)) (by decide)) (by decide)) (by decide)) (by decide)) rfl rfl ac8 rfl (fun _ => rfl) (fun _ _ _ => rfl) (fun _ _ _ q => by cases q; rfl) r120 (show 0 ≤ (48 : Int) ∧ (48 : Int) ≤ 67108864 by decide) (by decide) r121.1 r121.2 dX7_init_153 dX7_init_155 (fun ln122 rh123 e124 kn125 => ?_)
  have h := h ln122 e124
  have kp126 := gKp_t kp119 kn125
  refine q_aload_n C 0 rfl rfl dX7_init_158 ?_
  refine q_iconst C dX7_init_159 ?_
  refine q_put (x := (-1)) (ty := .int) C fX7_75 (gKp_k kn125 (gKp_k kn118 (gKp_k kn111 (gKp_k kn104 (gKp_k kn97 (gKp_k kn90 (gKp_k kn83 (gKp_k kn76 (gKp_k kn69 (gKp_k kn62 (gKp_k kn55 (gKp_k kn48 (gKp_k kn41 (gKp_k kn34 (gKp_k kn27 (gKp_k kn20 (gKp_k kn13 (gKp_k kn6 hk0 (by decide)) (by decide)) (by decide)) (by decide)) (by decide)) (by decide)) (by decide)) (by decide)) (by decide)) (by decide)) (by decide)) (by decide)) (by decide)) (by decide)) (by decide)) (by decide)) (by decide)) (by decide)) (fun _ _ _ q => by cases q; rfl) (congrArg (fun z => Value.int (gI z)) gu_s) rfl rfl (show rng (-1) by decide) (fun j q => absurd (show (0 : Nat) = j + 3 from q) (by omega)) dX7_init_160 ?_
  refine q_aload_n C 0 rfl rfl dX7_init_163 ?_
  refine q_sipush C (by decide) dX7_init_164 ?_
  obtain ⟨r127, h⟩ := h
  obtain ⟨r128, h⟩ := h
  refine q_newput (t0 := 0) (ty := .int) C hin fX7_78 (fun _ _ _ q => by cases q; rfl) (gKp_k kn125 (gKp_k kn118 (gKp_k kn111 (gKp_k kn104 (gKp_k kn97 (gKp_k kn90 (gKp_k kn83 (gKp_k kn76 (gKp_k kn69 (gKp_k kn62 (gKp_k kn55 (gKp_k kn48 (gKp_k kn41 (gKp_k kn34 (gKp_k kn27 (gKp_k kn20 (gKp_k kn13 (gKp_k kn6 hk0 (by decide)) (by decide)) (by decide)) (by decide)) (by decide)) (by decide)) (by decide)) (by decide)) (by decide)) (by decide)) (by decide)) (by decide)) (by decide)) (by decide)) (by decide)) (by decide)) (by decide)) (by decide)) rfl rfl ac8 rfl (fun _ => rfl) (fun _ _ _ => rfl) (fun _ _ _ q => by cases q; rfl) r127 (show 0 ≤ (640 : Int) ∧ (640 : Int) ≤ 67108864 by decide) (by decide) r128.1 r128.2 dX7_init_167 dX7_init_169 (fun ln129 rh130 e131 kn132 => ?_)
  have h := h ln129 e131
  have kp133 := gKp_t kp126 kn132
  exact hret kd ln129 rh130 (gza (gu (gza (gza (gza (gza (gza (gza (gza (gza (gza (gza (gza (gza (gza (gza (gza (gza (gza (gza (gu (gu M a0 1 (-1) 8) a0 2 (-1) 64) a0 3) a0 4) a0 5) a0 6) a0 7) a0 8) a0 10) a0 13) a0 14) a0 15) a0 16) a0 17) a0 18) a0 19) a0 22) a0 23) a0 24) a0 25) a0 26 (-1) (-1)) a0 27) _ _ _ _ r128.1 r128.2 kp133 dX7_init_172 h
set_option maxHeartbeats 4000000 in
set_option maxRecDepth 100000 in
theorem mX7_in (l : Launch) (D : va_G) (cy : Nat → ClassId) (kd : gKd) (ln : gLn) (rh : gRh) (post : Int → gM → Prop) (a0 : Int) (a1 : Int) (a2 : Int) (M : gM)  (h : wX7_in kd ln post a0 a1 a2 M) : gMI l D cy yX7_in cX7_in 3 .boolean 0 0 [.int (gI a0), .int (gI a1), .int (gI a2)] kd ln rh M post := by
  refine gMI_ofZ (own := RX7) (by decide) rfl (Nat.le_of_ble_eq_true rfl) ?_
  intro p e s m args below meth c A H0 Q C hret
  unfold wX7_in at h
  refine q_iload_n C 0 rfl rfl dX7_in_0 ?_
  refine q_iload_n C 1 rfl rfl dX7_in_1 ?_
  obtain ⟨r1, h⟩ := h
  obtain ⟨r2, h⟩ := h
  refine q_icmp_lt (tgt := 14) C r1 r2 (by decide) dX7_in_2 (fun b3 => ?_) (fun b3 => ?_)
  · have h := h.1 b3
    refine q_iconst C dX7_in_14 ?_
    exact hret 0 M _ _ dX7_in_15 (Or.inl rfl) h
  · have h := h.2 b3
    refine q_iload_n C 0 rfl rfl dX7_in_5 ?_
    refine q_iload_n C 2 rfl rfl dX7_in_6 ?_
    obtain ⟨r4, h⟩ := h
    refine q_icmp_gt (tgt := 14) C r1 r4 (by decide) dX7_in_7 (fun b5 => ?_) (fun b5 => ?_)
    · have h := h.1 b5
      refine q_iconst C dX7_in_14 ?_
      exact hret 0 M _ _ dX7_in_15 (Or.inl rfl) h
    · have h := h.2 b5
      refine q_iconst C dX7_in_10 ?_
      refine q_goto (tgt := 15) C (by decide) dX7_in_11 ?_
      exact hret 1 M _ _ dX7_in_15 (Or.inr rfl) h
set_option maxHeartbeats 4000000 in
set_option maxRecDepth 100000 in
theorem mX7_board (l : Launch) (D : va_G) (cy : Nat → ClassId) (kd : gKd) (ln : gLn) (rh : gRh) (post : Int → gM → Prop) (a0 : Int) (a1 : Int) (M : gM) (hk0 : kd a0 = 7) (h : wX7_board kd ln post a0 a1 M) : gMI l D cy yX7_board cX7_board 3 .boolean 1 22 [.ref (gad a0), .int (gI a1)] kd ln rh M post := by
  refine gMI_ofZ (own := RX7) (by decide) rfl (Nat.le_of_ble_eq_true rfl) ?_
  intro p e s m args below meth c A H0 Q C hret
  have t31 : ∀ (n : Nat) (x2 : Int) (M : gM), wX7_board_31 kd ln post a0 a1 n x2 M → gW p l e (gRm 1 22) s m args below meth c D cy A H0 Q 3 kd ln rh 0 0 M 31 [(0, .ref (gad a0)), (2, .int (gI x2))] [] := by
    intro n
    induction n with
    | zero => intro x2 M h; exact absurd h (by simp [wX7_board_31])
    | succ n ih =>
      intro x2 M h
      have hk31_ := ih
      rw [wX7_board_31] at h
      refine q_iload_n C 1 rfl rfl dX7_board_31 ?_
      refine q_iconst C dX7_board_32 ?_
      obtain ⟨r7, h⟩ := h
      refine q_icmp_ge (tgt := 49) C r7 (show rng 3 by decide) (by decide) dX7_board_33 (fun b8 => ?_) (fun b8 => ?_)
      · have h := h.1 b8
        refine q_aload_n C 0 rfl rfl dX7_board_49 ?_
        refine q_iconst C dX7_board_50 ?_
        refine q_put (x := (-1)) (ty := .int) C fX7_75 hk0 (fun _ _ _ q => by cases q; rfl) (congrArg (fun z => Value.int (gI z)) gu_s) rfl rfl (show rng (-1) by decide) (fun j q => absurd (show (0 : Nat) = j + 3 from q) (by omega)) dX7_board_51 ?_
        refine q_iconst C dX7_board_54 ?_
        exact hret 1 (gu M a0 26 (-1) (-1)) _ _ dX7_board_55 (Or.inr rfl) h
      · have h := h.2 b8
        refine q_aload_n C 0 rfl rfl dX7_board_36 ?_
        obtain ⟨r9, h⟩ := h
        refine q_get (v := .ref (rh a0 3)) C fX7_16 hk0 (if_neg (Int.not_lt.mpr r9)) dX7_board_37 (fun g10 => ?_)
        refine q_iload_n C 1 rfl rfl dX7_board_40 ?_
        refine q_iconst C dX7_board_41 ?_
        obtain ⟨r11, h⟩ := h
        refine q_zast C hk0 rfl (rng1 (Or.inl rfl)) (Or.inl rfl) r11 dX7_board_42 ?_
        refine q_iinc (lv' := [(2, .int (gI (x2 + 1))), (0, .ref (gad a0))]) C 1 rfl (by decide) rfl dX7_board_43 ?_
        refine q_goto (tgt := 31) C (by decide) dX7_board_46 ?_
        refine q_lv (lv' := [(0, .ref (gad a0)), (2, .int (gI (x2 + 1)))]) [1, 0] rfl ?_
        exact hk31_ (x2 + 1) (gu M a0 3 x2 0) h
  unfold wX7_board at h
  refine q_aload_n C 0 rfl rfl dX7_board_0 ?_
  refine q_iconst C dX7_board_1 ?_
  refine q_put (x := 0) (ty := .int) C fX7_81 hk0 (fun _ _ _ q => by cases q; rfl) (congrArg (fun z => Value.int (gI z)) gu_s) rfl rfl (show rng 0 by decide) (fun j q => absurd (show (0 : Nat) = j + 3 from q) (by omega)) dX7_board_2 ?_
  refine q_iload_n C 1 rfl rfl dX7_board_5 ?_
  refine q_iconst C dX7_board_6 ?_
  refine q_bipush C (by decide) dX7_board_7 ?_
  refine q_callSI (As := [.int (gI a1), .int (gI 4), .int (gI 8)]) (st := []) C vX7_84 kX7_in ⟨Nat.le_of_ble_eq_true rfl, Nat.le_of_ble_eq_true rfl⟩ ⟨Nat.le_of_ble_eq_true rfl, Nat.le_of_ble_eq_true rfl⟩ rfl rfl (Nat.le_of_ble_eq_true rfl) (mX7_in l D cy kd ln rh _ a1 4 8 (gu M a0 0 (-1) 0)  h) dX7_board_9 (fun c2 M1 g3 h => ?_)
  have h := h g3
  refine q_if_ne (tgt := 17) C g3 (by decide) dX7_board_12 (fun b4 => ?_) (fun b4 => ?_)
  · have h := h.1 b4
    refine q_aload_n C 0 rfl rfl dX7_board_17 ?_
    refine q_iload_n C 1 rfl rfl dX7_board_18 ?_
    obtain ⟨r5, h⟩ := h
    refine q_put (x := a1) (ty := .int) C fX7_7 hk0 (fun _ _ _ q => by cases q; rfl) (congrArg (fun z => Value.int (gI z)) gu_s) rfl rfl r5 (fun j q => absurd (show (0 : Nat) = j + 3 from q) (by omega)) dX7_board_19 ?_
    refine q_aload_n C 0 rfl rfl dX7_board_22 ?_
    refine q_iload_n C 1 rfl rfl dX7_board_23 ?_
    refine q_iload_n C 1 rfl rfl dX7_board_24 ?_
    refine q_imul C dX7_board_25 ?_
    obtain ⟨r6, h⟩ := h
    refine q_put (x := (a1 * a1)) (ty := .int) C fX7_13 hk0 (fun _ _ _ q => by cases q; rfl) (congrArg (fun z => Value.int (gI z)) gu_s) rfl rfl r6 (fun j q => absurd (show (0 : Nat) = j + 3 from q) (by omega)) dX7_board_26 ?_
    refine q_iconst C dX7_board_29 ?_
    refine q_istore_n (lv' := [(2, .int (gI 0)), (0, .ref (gad a0)), (1, .int (gI a1))]) C rfl (by decide) rfl dX7_board_30 ?_
    refine q_lv (lv' := [(0, .ref (gad a0)), (2, .int (gI 0))]) [1, 0] rfl ?_
    obtain ⟨j31, h⟩ := h
    exact t31  j31 0 (gu (gu M1 a0 1 (-1) a1) a0 2 (-1) (a1 * a1)) h
  · have h := h.2 b4
    refine q_iconst C dX7_board_15 ?_
    exact hret 0 M1 _ _ dX7_board_16 (Or.inl rfl) h
set_option maxHeartbeats 4000000 in
set_option maxRecDepth 100000 in
theorem mX2_enter (l : Launch) (D : va_G) (cy : Nat → ClassId) (kd : gKd) (ln : gLn) (rh : gRh) (post : gM → Prop) (a0 : Int) (a1 : Int) (a2 : Int) (a3 : Int) (M : gM) (hk0 : kd a0 = 2) (h : wX2_enter kd ln post a0 a1 a2 a3 M) : gMV l D cy yX2_enter cX2_enter 8 0 0 [.ref (gad a0), .int (gI a1), .int (gI a2), .int (gI a3)] kd ln rh M post := by
  refine gMV_of (own := RX2) (by decide) rfl (Nat.le_of_ble_eq_true rfl) ?_
  intro p e s m args below meth c A H0 Q C hret
  have t90 : ∀ (k17 : Int → Int → Int → gM → Prop), (∀ (x4 : Int), ∀ (x5 : Int), ∀ (x6 : Int), ∀ (M : gM), k17 x4 x5 x6 M → gW p l e (gRm 0 0) s m args below meth c D cy A H0 Q 8 kd ln rh 0 0 M 17 [(0, .ref (gad a0)), (1, .int (gI a1)), (2, .int (gI a2)), (3, .int (gI a3)), (4, .int (gI x4)), (5, .int (gI x5)), (6, .int (gI x6))] []) → ∀ (x4 : Int) (x5 : Int) (x6 : Int) (M : gM), wX2_enter_90 kd ln post a0 a1 a2 a3 k17 x4 x5 x6 M → gW p l e (gRm 0 0) s m args below meth c D cy A H0 Q 8 kd ln rh 0 0 M 90 [(0, .ref (gad a0)), (1, .int (gI a1)), (2, .int (gI a2)), (3, .int (gI a3)), (4, .int (gI x4)), (5, .int (gI x5)), (6, .int (gI x6))] [] := by
    intro k17 hk17_ x4 x5 x6 M h
    unfold wX2_enter_90 at h
    refine q_iload C 6 rfl dX2_enter_90 ?_
    refine q_aload_n C 0 rfl rfl dX2_enter_92 ?_
    refine q_get (v := .int (gI (M a0 3 (-1)))) C fX2_15 hk0 rfl dX2_enter_93 (fun g56 => ?_)
    have h := h g56
    refine q_iadd C dX2_enter_96 ?_
    refine q_topi (fun v57 ev57 => ?_)
    have h := h v57 ev57
    refine q_istore (lv' := [(6, .int (gI v57)), (0, .ref (gad a0)), (1, .int (gI a1)), (2, .int (gI a2)), (3, .int (gI a3)), (4, .int (gI x4)), (5, .int (gI x5))]) C (by decide) rfl dX2_enter_97 ?_
    refine q_goto (tgt := 17) C (by decide) dX2_enter_99 ?_
    refine q_lv (lv' := [(0, .ref (gad a0)), (1, .int (gI a1)), (2, .int (gI a2)), (3, .int (gI a3)), (4, .int (gI x4)), (5, .int (gI x5)), (6, .int (gI v57))]) [1, 2, 3, 4, 5, 6, 0] rfl ?_
    exact hk17_ x4 x5 v57 M h
  have t70 : ∀ (k17 : Int → Int → Int → gM → Prop), (∀ (x4 : Int), ∀ (x5 : Int), ∀ (x6 : Int), ∀ (M : gM), k17 x4 x5 x6 M → gW p l e (gRm 0 0) s m args below meth c D cy A H0 Q 8 kd ln rh 0 0 M 17 [(0, .ref (gad a0)), (1, .int (gI a1)), (2, .int (gI a2)), (3, .int (gI a3)), (4, .int (gI x4)), (5, .int (gI x5)), (6, .int (gI x6))] []) → ∀ (x4 : Int) (x5 : Int) (x6 : Int) (x7 : Int) (M : gM), wX2_enter_70 kd ln post a0 a1 a2 a3 k17 x4 x5 x6 x7 M → gW p l e (gRm 0 0) s m args below meth c D cy A H0 Q 8 kd ln rh 0 0 M 70 [(0, .ref (gad a0)), (1, .int (gI a1)), (2, .int (gI a2)), (3, .int (gI a3)), (4, .int (gI x4)), (5, .int (gI x5)), (6, .int (gI x6)), (7, .int (gI x7))] [] := by
    intro k17 hk17_ x4 x5 x6 x7 M h
    unfold wX2_enter_70 at h
    refine q_iload C 7 rfl dX2_enter_70 ?_
    refine q_iload C 5 rfl dX2_enter_72 ?_
    obtain ⟨r49, h⟩ := h
    obtain ⟨r50, h⟩ := h
    refine q_icmp_gt (tgt := 90) C r49 r50 (by decide) dX2_enter_74 (fun b51 => ?_) (fun b51 => ?_)
    · have h := h.1 b51
      refine q_lv (lv' := [(0, .ref (gad a0)), (1, .int (gI a1)), (2, .int (gI a2)), (3, .int (gI a3)), (4, .int (gI x4)), (5, .int (gI x5)), (6, .int (gI x6))]) [0, 1, 2, 3, 4, 5, 6] rfl ?_
      exact t90 k17 hk17_ x4 x5 x6 M h
    · have h := h.2 b51
      refine q_aload_n C 0 rfl rfl dX2_enter_77 ?_
      obtain ⟨r52, h⟩ := h
      refine q_get (v := .ref (rh a0 7)) C fX2_29 hk0 (if_neg (Int.not_lt.mpr r52)) dX2_enter_78 (fun g53 => ?_)
      refine q_iload C 4 rfl dX2_enter_81 ?_
      refine q_iload C 6 rfl dX2_enter_83 ?_
      obtain ⟨r54, h⟩ := h
      obtain ⟨r55, h⟩ := h
      refine q_iast C hk0 rfl r55 r54 dX2_enter_85 ?_
      refine q_iload C 7 rfl dX2_enter_86 ?_
      refine q_istore (lv' := [(5, .int (gI x7)), (0, .ref (gad a0)), (1, .int (gI a1)), (2, .int (gI a2)), (3, .int (gI a3)), (4, .int (gI x4)), (6, .int (gI x6)), (7, .int (gI x7))]) C (by decide) rfl dX2_enter_88 ?_
      refine q_lv (lv' := [(0, .ref (gad a0)), (1, .int (gI a1)), (2, .int (gI a2)), (3, .int (gI a3)), (4, .int (gI x4)), (5, .int (gI x7)), (6, .int (gI x6))]) [1, 2, 3, 4, 5, 0, 6] rfl ?_
      exact t90 k17 hk17_ x4 x7 x6 (gu M a0 7 x4 x6) h
  have t17 : ∀ (n : Nat) (x4 : Int) (x5 : Int) (x6 : Int) (M : gM), wX2_enter_17 kd ln post a0 a1 a2 a3 n x4 x5 x6 M → gW p l e (gRm 0 0) s m args below meth c D cy A H0 Q 8 kd ln rh 0 0 M 17 [(0, .ref (gad a0)), (1, .int (gI a1)), (2, .int (gI a2)), (3, .int (gI a3)), (4, .int (gI x4)), (5, .int (gI x5)), (6, .int (gI x6))] [] := by
    intro n
    induction n with
    | zero => intro x4 x5 x6 M h; exact absurd h (by simp [wX2_enter_17])
    | succ n ih =>
      intro x4 x5 x6 M h
      have hk17_ := ih
      rw [wX2_enter_17] at h
      refine q_iload C 6 rfl dX2_enter_17 ?_
      refine q_iload_n C 3 rfl rfl dX2_enter_19 ?_
      refine q_aload_n C 0 rfl rfl dX2_enter_20 ?_
      refine q_get (v := .int (gI (M a0 3 (-1)))) C fX2_15 hk0 rfl dX2_enter_21 (fun g3 => ?_)
      have h := h g3
      refine q_imul C dX2_enter_24 ?_
      obtain ⟨r4, h⟩ := h
      obtain ⟨r5, h⟩ := h
      refine q_icmp_ge (tgt := 102) C r4 r5 (by decide) dX2_enter_25 (fun b6 => ?_) (fun b6 => ?_)
      · have h := h.1 b6
        refine q_iload C 5 rfl dX2_enter_102 ?_
        refine q_iload C 4 rfl dX2_enter_104 ?_
        obtain ⟨r7, h⟩ := h
        obtain ⟨r8, h⟩ := h
        refine q_icmp_ne (tgt := 153) C r7 r8 (by decide) dX2_enter_106 (fun b9 => ?_) (fun b9 => ?_)
        · have h := h.1 b9
          refine q_aload_n C 0 rfl rfl dX2_enter_153 ?_
          obtain ⟨r10, h⟩ := h
          refine q_get (v := .ref (rh a0 5)) C fX2_23 hk0 (if_neg (Int.not_lt.mpr r10)) dX2_enter_154 (fun g11 => ?_)
          refine q_iload C 4 rfl dX2_enter_157 ?_
          refine q_aload_n C 0 rfl rfl dX2_enter_159 ?_
          refine q_get (v := .ref (rh a0 5)) C fX2_23 hk0 (if_neg (Int.not_lt.mpr r10)) dX2_enter_160 (fun g12 => ?_)
          refine q_iload C 5 rfl dX2_enter_163 ?_
          obtain ⟨r13, h⟩ := h
          refine q_iald C hk0 rfl (fun _ q => q) r13 dX2_enter_165 (fun g14 => ?_)
          have h := h g14
          obtain ⟨r15, h⟩ := h
          refine q_iast C hk0 rfl g14 r15 dX2_enter_166 ?_
          exact hret (gu M a0 5 x4 (M a0 5 x5)) _ _ dX2_enter_167 h
        · have h := h.2 b9
          refine q_aload_n C 0 rfl rfl dX2_enter_109 ?_
          obtain ⟨r16, h⟩ := h
          refine q_get (v := .ref (rh a0 1)) C fX2_32 hk0 (if_neg (Int.not_lt.mpr r16)) dX2_enter_110 (fun g17 => ?_)
          refine q_aload_n C 0 rfl rfl dX2_enter_113 ?_
          refine q_get (v := .int (gI (M a0 0 (-1)))) C fX2_52 hk0 rfl dX2_enter_114 (fun g18 => ?_)
          have h := h g18
          refine q_iload_n C 1 rfl rfl dX2_enter_117 ?_
          obtain ⟨r19, h⟩ := h
          obtain ⟨r20, h⟩ := h
          refine q_iast C hk0 rfl r20 r19 dX2_enter_118 ?_
          refine q_aload_n C 0 rfl rfl dX2_enter_119 ?_
          obtain ⟨r21, h⟩ := h
          refine q_get (v := .ref (rh a0 2)) C fX2_35 hk0 (if_neg (Int.not_lt.mpr r21)) dX2_enter_120 (fun g22 => ?_)
          refine q_aload_n C 0 rfl rfl dX2_enter_123 ?_
          refine q_get (v := .int (gI ((gu M a0 1 (M a0 0 (-1)) a1) a0 0 (-1)))) C fX2_52 hk0 rfl dX2_enter_124 (fun g23 => ?_)
          have h := h g23
          refine q_iload_n C 2 rfl rfl dX2_enter_127 ?_
          obtain ⟨r24, h⟩ := h
          obtain ⟨r25, h⟩ := h
          refine q_iast C hk0 rfl r25 r24 dX2_enter_128 ?_
          refine q_aload_n C 0 rfl rfl dX2_enter_129 ?_
          obtain ⟨r26, h⟩ := h
          refine q_get (v := .ref (rh a0 5)) C fX2_23 hk0 (if_neg (Int.not_lt.mpr r26)) dX2_enter_130 (fun g27 => ?_)
          refine q_iload C 4 rfl dX2_enter_133 ?_
          refine q_aload_n C 0 rfl rfl dX2_enter_135 ?_
          refine q_get (v := .int (gI ((gu (gu M a0 1 (M a0 0 (-1)) a1) a0 2 ((gu M a0 1 (M a0 0 (-1)) a1) a0 0 (-1)) a2) a0 0 (-1)))) C fX2_52 hk0 rfl dX2_enter_136 (fun g28 => ?_)
          have h := h g28
          obtain ⟨r29, h⟩ := h
          refine q_iast C hk0 rfl g28 r29 dX2_enter_139 ?_
          refine q_aload_n C 0 rfl rfl dX2_enter_140 ?_
          refine q_dup C rfl dX2_enter_141 ?_
          refine q_get (v := .int (gI ((gu (gu (gu M a0 1 (M a0 0 (-1)) a1) a0 2 ((gu M a0 1 (M a0 0 (-1)) a1) a0 0 (-1)) a2) a0 5 x4 ((gu (gu M a0 1 (M a0 0 (-1)) a1) a0 2 ((gu M a0 1 (M a0 0 (-1)) a1) a0 0 (-1)) a2) a0 0 (-1))) a0 0 (-1)))) C fX2_52 hk0 rfl dX2_enter_142 (fun g30 => ?_)
          have h := h g30
          refine q_iconst C dX2_enter_145 ?_
          refine q_iadd C dX2_enter_146 ?_
          obtain ⟨r31, h⟩ := h
          refine q_put (x := (((gu (gu (gu M a0 1 (M a0 0 (-1)) a1) a0 2 ((gu M a0 1 (M a0 0 (-1)) a1) a0 0 (-1)) a2) a0 5 x4 ((gu (gu M a0 1 (M a0 0 (-1)) a1) a0 2 ((gu M a0 1 (M a0 0 (-1)) a1) a0 0 (-1)) a2) a0 0 (-1))) a0 0 (-1)) + 1)) (ty := .int) C fX2_52 hk0 (fun _ _ _ q => by cases q; rfl) (congrArg (fun z => Value.int (gI z)) gu_s) rfl rfl r31 (fun j q => absurd (show (0 : Nat) = j + 3 from q) (by omega)) dX2_enter_147 ?_
          refine q_goto (tgt := 167) C (by decide) dX2_enter_150 ?_
          exact hret (gu (gu (gu (gu M a0 1 (M a0 0 (-1)) a1) a0 2 ((gu M a0 1 (M a0 0 (-1)) a1) a0 0 (-1)) a2) a0 5 x4 ((gu (gu M a0 1 (M a0 0 (-1)) a1) a0 2 ((gu M a0 1 (M a0 0 (-1)) a1) a0 0 (-1)) a2) a0 0 (-1))) a0 0 (-1) (((gu (gu (gu M a0 1 (M a0 0 (-1)) a1) a0 2 ((gu M a0 1 (M a0 0 (-1)) a1) a0 0 (-1)) a2) a0 5 x4 ((gu (gu M a0 1 (M a0 0 (-1)) a1) a0 2 ((gu M a0 1 (M a0 0 (-1)) a1) a0 0 (-1)) a2) a0 0 (-1))) a0 0 (-1)) + 1)) _ _ dX2_enter_167 h
      · have h := h.2 b6
        refine q_aload_n C 0 rfl rfl dX2_enter_28 ?_
        obtain ⟨r33, h⟩ := h
        obtain ⟨r34, h⟩ := h
        obtain ⟨r35, h⟩ := h
        refine q_get (v := .ref (rh (M a0 4 (-1)) 4)) C fX2_22 hk0 (if_neg r33) dX2_enter_29 (fun g32 => ?_)
        refine q_iload C 6 rfl dX2_enter_32 ?_
        refine q_iload_n C 1 rfl rfl dX2_enter_34 ?_
        refine q_iadd C dX2_enter_35 ?_
        obtain ⟨r36, h⟩ := h
        refine q_iald C r34 rfl (fun _ q => q) r36 dX2_enter_36 (fun g37 => ?_)
        have h := h g37
        refine q_aload_n C 0 rfl rfl dX2_enter_37 ?_
        refine q_get (v := .int (gI (M a0 3 (-1)))) C fX2_15 hk0 rfl dX2_enter_38 (fun g38 => ?_)
        refine q_imul C dX2_enter_41 ?_
        refine q_aload_n C 0 rfl rfl dX2_enter_42 ?_
        refine q_get (v := .ref (rh (M a0 4 (-1)) 4)) C fX2_22 hk0 (if_neg r33) dX2_enter_43 (fun g39 => ?_)
        refine q_iload C 6 rfl dX2_enter_46 ?_
        refine q_iload_n C 2 rfl rfl dX2_enter_48 ?_
        refine q_iadd C dX2_enter_49 ?_
        obtain ⟨r40, h⟩ := h
        refine q_iald C r34 rfl (fun _ q => q) r40 dX2_enter_50 (fun g41 => ?_)
        have h := h g41
        refine q_iadd C dX2_enter_51 ?_
        refine q_topi (fun v42 ev42 => ?_)
        have h := h v42 ev42
        refine q_istore (lv' := [(7, .int (gI v42)), (0, .ref (gad a0)), (1, .int (gI a1)), (2, .int (gI a2)), (3, .int (gI a3)), (4, .int (gI x4)), (5, .int (gI x5)), (6, .int (gI x6))]) C (by decide) rfl dX2_enter_52 ?_
        refine q_iload C 0 rfl dX2_enter_54 ?_
        refine q_iload C 6 rfl dX2_enter_56 ?_
        obtain ⟨r43, h⟩ := h
        obtain ⟨r44, h⟩ := h
        refine q_icmp_ge (tgt := 70) C r43 r44 (by decide) dX2_enter_58 (fun b45 => ?_) (fun b45 => ?_)
        · have h := h.1 b45
          refine q_lv (lv' := [(0, .ref (gad a0)), (1, .int (gI a1)), (2, .int (gI a2)), (3, .int (gI a3)), (4, .int (gI x4)), (5, .int (gI x5)), (6, .int (gI x6)), (7, .int (gI v42))]) [1, 2, 3, 4, 5, 6, 7, 0] rfl ?_
          exact t70 (wX2_enter_17 kd ln post a0 a1 a2 a3 n) hk17_ x4 x5 x6 v42 M h
        · have h := h.2 b45
          refine q_aload_n C 1 rfl rfl dX2_enter_61 ?_
          obtain ⟨r46, h⟩ := h
          refine q_get (v := .ref (rh a0 6)) C fX2_26 hk0 (if_neg (Int.not_lt.mpr r46)) dX2_enter_62 (fun g47 => ?_)
          refine q_iload C 5 rfl dX2_enter_65 ?_
          refine q_iload C 7 rfl dX2_enter_67 ?_
          obtain ⟨r48, h⟩ := h
          refine q_iast C hk0 rfl r4 r48 dX2_enter_69 ?_
          refine q_lv (lv' := [(0, .ref (gad a0)), (1, .int (gI a1)), (2, .int (gI a2)), (3, .int (gI a3)), (4, .int (gI x4)), (5, .int (gI x5)), (6, .int (gI x6)), (7, .int (gI v42))]) [1, 2, 3, 4, 5, 6, 7, 0] rfl ?_
          exact t70 (wX2_enter_17 kd ln post a0 a1 a2 a3 n) hk17_ x4 x5 x6 v42 (gu M a0 6 x4 x6) h
  unfold wX2_enter at h
  refine q_iload_n C 1 rfl rfl dX2_enter_0 ?_
  refine q_aload_n C 0 rfl rfl dX2_enter_1 ?_
  refine q_get (v := .int (gI (M a0 3 (-1)))) C fX2_15 hk0 rfl dX2_enter_2 (fun g1 => ?_)
  have h := h g1
  refine q_imul C dX2_enter_5 ?_
  refine q_iload_n C 2 rfl rfl dX2_enter_6 ?_
  refine q_iadd C dX2_enter_7 ?_
  refine q_topi (fun v2 ev2 => ?_)
  have h := h v2 ev2
  refine q_istore (lv' := [(4, .int (gI v2)), (0, .ref (gad a0)), (1, .int (gI a1)), (2, .int (gI a2)), (3, .int (gI a3))]) C (by decide) rfl dX2_enter_8 ?_
  refine q_iload C 0 rfl dX2_enter_10 ?_
  refine q_istore (lv' := [(5, .int (gI v2)), (4, .int (gI v2)), (0, .ref (gad a0)), (1, .int (gI a1)), (2, .int (gI a2)), (3, .int (gI a3))]) C (by decide) rfl dX2_enter_12 ?_
  refine q_iconst C dX2_enter_14 ?_
  refine q_istore (lv' := [(6, .int (gI 0)), (5, .int (gI v2)), (4, .int (gI v2)), (0, .ref (gad a0)), (1, .int (gI a1)), (2, .int (gI a2)), (3, .int (gI a3))]) C (by decide) rfl dX2_enter_15 ?_
  refine q_lv (lv' := [(0, .ref (gad a0)), (1, .int (gI a1)), (2, .int (gI a2)), (3, .int (gI a3)), (4, .int (gI v2)), (5, .int (gI v2)), (6, .int (gI 0))]) [3, 4, 5, 6, 2, 1, 0] rfl ?_
  obtain ⟨j17, h⟩ := h
  exact t17  j17 v2 v2 0 M h
set_option maxHeartbeats 4000000 in
set_option maxRecDepth 100000 in
theorem mX2_init (l : Launch) (D : va_G) (cy : Nat → ClassId) (mc ms : Nat) (kd : gKd) (ln : gLn) (rh : gRh) (post : gKd → gLn → gM → Prop) (a0 : Int) (a1 : Int) (a2 : Int) (M : gM) (hk0 : kd a0 = 2) (hk1 : kd a1 = 0) (h : wX2_init mc ms kd ln post a0 a1 a2 M) : gXV l D cy yX2_init cX2_init 5 2 44 mc ms [.ref (gad a0), .ref (gad a1), .int (gI a2)] kd ln rh M post := by
  refine gXV_of (own := RX2) (by decide) rfl (Nat.le_of_ble_eq_true rfl) ?_
  intro p e s m args below meth c A H0 Q C hin hret
  have t149 : ∀ (k105 : gKd → gLn → Nat → Nat → Int → gM → Prop), (∀ (kd_ : gKd) (ln_ : gLn) (rh_ : gRh) (c_ s_ : Nat) (kp_ : gKp kd ln rh kd_ ln_ rh_), ∀ (x3 : Int), ∀ (M : gM), k105 kd_ ln_ c_ s_ x3 M → gW p l e (gRx 2 44 mc ms) s m args below meth c D cy A H0 Q 5 kd_ ln_ rh_ c_ s_ M 105 [(0, .ref (gad a0)), (1, .ref (gad a1)), (2, .int (gI a2)), (3, .int (gI x3))] []) → ∀ (k116 : gKd → gLn → Nat → Nat → Int → Int → gM → Prop), (∀ (kd_ : gKd) (ln_ : gLn) (rh_ : gRh) (c_ s_ : Nat) (kp_ : gKp kd ln rh kd_ ln_ rh_), ∀ (x3 : Int), ∀ (x4 : Int), ∀ (M : gM), k116 kd_ ln_ c_ s_ x3 x4 M → gW p l e (gRx 2 44 mc ms) s m args below meth c D cy A H0 Q 5 kd_ ln_ rh_ c_ s_ M 116 [(0, .ref (gad a0)), (1, .ref (gad a1)), (2, .int (gI a2)), (3, .int (gI x3)), (4, .int (gI x4))] []) → ∀ (kd_ : gKd) (ln_ : gLn) (rh_ : gRh) (c_ s_ : Nat) (kp_ : gKp kd ln rh kd_ ln_ rh_) (x3 : Int) (x4 : Int) (M : gM), wX2_init_149 mc ms post a0 a1 a2 k105 k116 kd_ ln_ c_ s_ x3 x4 M → gW p l e (gRx 2 44 mc ms) s m args below meth c D cy A H0 Q 5 kd_ ln_ rh_ c_ s_ M 149 [(0, .ref (gad a0)), (1, .ref (gad a1)), (2, .int (gI a2)), (3, .int (gI x3)), (4, .int (gI x4))] [] := by
    intro k105 hk105_ k116 hk116_ kd_ ln_ rh_ c_ s_ kp_ x3 x4 M h
    unfold wX2_init_149 at h
    obtain ⟨r77, h⟩ := h
    refine q_iinc (lv' := [(4, .int (gI (x4 + 1))), (0, .ref (gad a0)), (1, .ref (gad a1)), (2, .int (gI a2)), (3, .int (gI x3))]) C 4 rfl (by decide) rfl dX2_init_149 ?_
    refine q_goto (tgt := 116) C (by decide) dX2_init_152 ?_
    refine q_lv (lv' := [(0, .ref (gad a0)), (1, .ref (gad a1)), (2, .int (gI a2)), (3, .int (gI x3)), (4, .int (gI (x4 + 1)))]) [1, 2, 3, 4, 0] rfl ?_
    exact hk116_ kd_ ln_ rh_ c_ s_ kp_ x3 (x4 + 1) M h
  have t116 : ∀ (k105 : gKd → gLn → Nat → Nat → Int → gM → Prop), (∀ (kd_ : gKd) (ln_ : gLn) (rh_ : gRh) (c_ s_ : Nat) (kp_ : gKp kd ln rh kd_ ln_ rh_), ∀ (x3 : Int), ∀ (M : gM), k105 kd_ ln_ c_ s_ x3 M → gW p l e (gRx 2 44 mc ms) s m args below meth c D cy A H0 Q 5 kd_ ln_ rh_ c_ s_ M 105 [(0, .ref (gad a0)), (1, .ref (gad a1)), (2, .int (gI a2)), (3, .int (gI x3))] []) → ∀ (n : Nat) (kd_ : gKd) (ln_ : gLn) (rh_ : gRh) (c_ s_ : Nat) (kp_ : gKp kd ln rh kd_ ln_ rh_) (x3 : Int) (x4 : Int) (M : gM), wX2_init_116 mc ms post a0 a1 a2 k105 n kd_ ln_ c_ s_ x3 x4 M → gW p l e (gRx 2 44 mc ms) s m args below meth c D cy A H0 Q 5 kd_ ln_ rh_ c_ s_ M 116 [(0, .ref (gad a0)), (1, .ref (gad a1)), (2, .int (gI a2)), (3, .int (gI x3)), (4, .int (gI x4))] [] := by
    intro k105 hk105_
    intro n
    induction n with
    | zero => intro kd_ ln_ rh_ c_ s_ kp_ x3 x4 M h; exact absurd h (by simp [wX2_init_116])
    | succ n ih =>
      intro kd_ ln_ rh_ c_ s_ kp_ x3 x4 M h
      have hk116_ := ih
      rw [wX2_init_116] at h
      obtain ⟨r64, h⟩ := h
      refine q_iload C 4 rfl dX2_init_116 ?_
      refine q_aload_n C 0 rfl rfl dX2_init_118 ?_
      refine q_get (v := .int (gI (M a0 3 (-1)))) C fX2_15 (gKp_k kp_ hk0 (by decide)) rfl dX2_init_119 (fun g65 => ?_)
      have h := h g65
      obtain ⟨r66, h⟩ := h
      refine q_icmp_ge (tgt := 155) C r66 g65 (by decide) dX2_init_122 (fun b67 => ?_) (fun b67 => ?_)
      · have h := h.1 b67
        refine q_iinc (lv' := [(3, .int (gI (x3 + 1))), (0, .ref (gad a0)), (1, .ref (gad a1)), (2, .int (gI a2)), (4, .int (gI x4))]) C 3 rfl (by decide) rfl dX2_init_155 ?_
        refine q_goto (tgt := 105) C (by decide) dX2_init_158 ?_
        refine q_lv (lv' := [(0, .ref (gad a0)), (1, .ref (gad a1)), (2, .int (gI a2)), (3, .int (gI (x3 + 1)))]) [1, 2, 3, 0] rfl ?_
        exact hk105_ kd_ ln_ rh_ c_ s_ kp_ (x3 + 1) M h
      · have h := h.2 b67
        refine q_iload_n C 3 rfl rfl dX2_init_125 ?_
        refine q_iload C 4 rfl dX2_init_126 ?_
        obtain ⟨r68, h⟩ := h
        refine q_icmp_eq (tgt := 149) C r68 r66 (by decide) dX2_init_128 (fun b69 => ?_) (fun b69 => ?_)
        · have h := h.1 b69
          exact t149 k105 hk105_ (wX2_init_116 mc ms post a0 a1 a2 k105 n) hk116_ kd_ ln_ rh_ c_ s_ kp_ x3 x4 M h
        · have h := h.2 b69
          refine q_aload_n C 1 rfl rfl dX2_init_131 ?_
          refine q_iload_n C 3 rfl rfl dX2_init_132 ?_
          refine q_iload C 4 rfl dX2_init_133 ?_
          refine q_callVI (As := [.int (gI x3), .int (gI x4)]) (st := []) C vX2_44 kX0_areNext r64 ⟨Nat.le_of_ble_eq_true rfl, Nat.le_of_ble_eq_true rfl⟩ rfl (gKp_k kp_ hk1 (by decide)) ⟨_, _, rfl⟩ (by decide) rfl (Nat.le_of_ble_eq_true rfl) (mX0_areNext l D cy kd_ ln_ rh_ _ a1 x3 x4 M (gKp_k kp_ hk1 (by decide)) h) dX2_init_135 (fun c71 M70 g72 h => ?_)
          have h := h g72
          refine q_if_ne (tgt := 149) C g72 (by decide) dX2_init_138 (fun b73 => ?_) (fun b73 => ?_)
          · have h := h.1 b73
            exact t149 k105 hk105_ (wX2_init_116 mc ms post a0 a1 a2 k105 n) hk116_ kd_ ln_ rh_ c_ s_ kp_ x3 x4 M70 h
          · have h := h.2 b73
            refine q_aload_n C 0 rfl rfl dX2_init_141 ?_
            refine q_iload_n C 3 rfl rfl dX2_init_142 ?_
            refine q_iload C 4 rfl dX2_init_143 ?_
            refine q_iload_n C 2 rfl rfl dX2_init_145 ?_
            refine q_callVV (As := [.int (gI x3), .int (gI x4), .int (gI a2)]) (st := []) C vX2_48 kX2_enter r64 ⟨Nat.le_of_ble_eq_true rfl, Nat.le_of_ble_eq_true rfl⟩ rfl (gKp_k kp_ hk0 (by decide)) ⟨_, _, rfl⟩ (by decide) rfl (Nat.le_of_ble_eq_true rfl) (mX2_enter l D cy kd_ ln_ rh_ _ a0 x3 x4 a2 M70 (gKp_k kp_ hk0 (by decide)) h) dX2_init_146 (fun M74 h => ?_)
            exact t149 k105 hk105_ (wX2_init_116 mc ms post a0 a1 a2 k105 n) hk116_ kd_ ln_ rh_ c_ s_ kp_ x3 x4 M74 h
  have t105 : ∀ (n : Nat) (kd_ : gKd) (ln_ : gLn) (rh_ : gRh) (c_ s_ : Nat) (kp_ : gKp kd ln rh kd_ ln_ rh_) (x3 : Int) (M : gM), wX2_init_105 mc ms post a0 a1 a2 n kd_ ln_ c_ s_ x3 M → gW p l e (gRx 2 44 mc ms) s m args below meth c D cy A H0 Q 5 kd_ ln_ rh_ c_ s_ M 105 [(0, .ref (gad a0)), (1, .ref (gad a1)), (2, .int (gI a2)), (3, .int (gI x3))] [] := by
    intro n
    induction n with
    | zero => intro kd_ ln_ rh_ c_ s_ kp_ x3 M h; exact absurd h (by simp [wX2_init_105])
    | succ n ih =>
      intro kd_ ln_ rh_ c_ s_ kp_ x3 M h
      have hk105_ := ih
      rw [wX2_init_105] at h
      obtain ⟨r60, h⟩ := h
      refine q_iload_n C 3 rfl rfl dX2_init_105 ?_
      refine q_aload_n C 0 rfl rfl dX2_init_106 ?_
      refine q_get (v := .int (gI (M a0 3 (-1)))) C fX2_15 (gKp_k kp_ hk0 (by decide)) rfl dX2_init_107 (fun g61 => ?_)
      have h := h g61
      obtain ⟨r62, h⟩ := h
      refine q_icmp_ge (tgt := 161) C r62 g61 (by decide) dX2_init_110 (fun b63 => ?_) (fun b63 => ?_)
      · have h := h.1 b63
        exact hret kd_ ln_ rh_ M _ _ _ _ r60.1 r60.2 kp_ dX2_init_161 h
      · have h := h.2 b63
        refine q_iconst C dX2_init_113 ?_
        refine q_istore (lv' := [(4, .int (gI 0)), (0, .ref (gad a0)), (1, .ref (gad a1)), (2, .int (gI a2)), (3, .int (gI x3))]) C (by decide) rfl dX2_init_114 ?_
        refine q_lv (lv' := [(0, .ref (gad a0)), (1, .ref (gad a1)), (2, .int (gI a2)), (3, .int (gI x3)), (4, .int (gI 0))]) [1, 2, 3, 4, 0] rfl ?_
        obtain ⟨j116, h⟩ := h
        exact t116 (wX2_init_105 mc ms post a0 a1 a2 n) hk105_ j116 kd_ ln_ rh_ c_ s_ kp_ x3 0 M h
  unfold wX2_init at h
  refine q_aload_n C 0 rfl rfl dX2_init_0 ?_
  refine q_objInit (o := a0) C obX2_3 (Nat.le_of_ble_eq_true rfl) (Nat.le_of_ble_eq_true rfl) dX2_init_1 ?_
  refine q_aload_n C 0 rfl rfl dX2_init_4 ?_
  refine q_aload_n C 1 rfl rfl dX2_init_5 ?_
  refine q_get (v := .int (gI (M a1 1 (-1)))) C fX2_9 hk1 rfl dX2_init_6 (fun g1 => ?_)
  have h := h g1
  refine q_putF (x := (M a1 1 (-1))) (ty := .int) C hin fX2_15 (fun _ _ _ q => by cases q; rfl) hk0 (fun _ _ _ q => by cases q; rfl) (congrArg (fun z => Value.int (gI z)) gu_s) rfl rfl g1 (fun j q => absurd (show (0 : Nat) = j + 3 from q) (by omega)) dX2_init_9 ?_
  refine q_aload_n C 0 rfl rfl dX2_init_12 ?_
  refine q_aload_n C 1 rfl rfl dX2_init_13 ?_
  obtain ⟨r2, h⟩ := h
  refine q_get (v := .ref (rh a1 4)) C fX2_18 hk1 (if_neg (Int.not_lt.mpr r2)) dX2_init_14 (fun g3 => ?_)
  obtain ⟨r4, h⟩ := h
  refine q_putF (x := a1) (v := .ref (rh a1 4)) (ty := .array .int) C hin fX2_22 (fun _ _ _ q => by cases q; rfl) hk0 (fun _ _ _ q => by cases q; rfl) (gfa_put (j := 4) rfl r4) rfl rfl (Int.le_of_lt r4) (fun j q _ => gfa_al (j0 := 4) q r2) dX2_init_17 ?_
  refine q_aload_n C 0 rfl rfl dX2_init_20 ?_
  refine q_aload_n C 0 rfl rfl dX2_init_21 ?_
  refine q_get (v := .int (gI ((gu (gu M a0 3 (-1) (M a1 1 (-1))) a0 4 (-1) a1) a0 3 (-1)))) C fX2_15 hk0 rfl dX2_init_22 (fun g5 => ?_)
  have h := h g5
  refine q_aload_n C 0 rfl rfl dX2_init_25 ?_
  refine q_get (v := .int (gI ((gu (gu M a0 3 (-1) (M a1 1 (-1))) a0 4 (-1) a1) a0 3 (-1)))) C fX2_15 hk0 rfl dX2_init_26 (fun g6 => ?_)
  refine q_imul C dX2_init_29 ?_
  obtain ⟨r7, h⟩ := h
  obtain ⟨r8, h⟩ := h
  obtain ⟨r9, h⟩ := h
  refine q_newput (t0 := 0) (ty := .int) C hin fX2_23 (fun _ _ _ q => by cases q; rfl) hk0 rfl rfl ac8 rfl (fun _ => rfl) (fun _ _ _ => rfl) (fun _ _ _ q => by cases q; rfl) r7 r8 (by decide) r9.1 r9.2 dX2_init_30 dX2_init_32 (fun ln10 rh11 e12 kn13 => ?_)
  have h := h ln10 e12
  have kp14 := gKp_t gKp_r kn13
  refine q_aload_n C 0 rfl rfl dX2_init_35 ?_
  refine q_aload_n C 0 rfl rfl dX2_init_36 ?_
  refine q_get (v := .int (gI ((gza (gu (gu M a0 3 (-1) (M a1 1 (-1))) a0 4 (-1) a1) a0 5) a0 3 (-1)))) C fX2_15 (gKp_k kn13 hk0 (by decide)) rfl dX2_init_37 (fun g15 => ?_)
  have h := h g15
  refine q_aload_n C 0 rfl rfl dX2_init_40 ?_
  refine q_get (v := .int (gI ((gza (gu (gu M a0 3 (-1) (M a1 1 (-1))) a0 4 (-1) a1) a0 5) a0 3 (-1)))) C fX2_15 (gKp_k kn13 hk0 (by decide)) rfl dX2_init_41 (fun g16 => ?_)
  refine q_imul C dX2_init_44 ?_
  obtain ⟨r17, h⟩ := h
  obtain ⟨r18, h⟩ := h
  obtain ⟨r19, h⟩ := h
  refine q_newput (t0 := 0) (ty := .int) C hin fX2_26 (fun _ _ _ q => by cases q; rfl) (gKp_k kn13 hk0 (by decide)) rfl rfl ac8 rfl (fun _ => rfl) (fun _ _ _ => rfl) (fun _ _ _ q => by cases q; rfl) r17 r18 (by decide) r19.1 r19.2 dX2_init_45 dX2_init_47 (fun ln20 rh21 e22 kn23 => ?_)
  have h := h ln20 e22
  have kp24 := gKp_t kp14 kn23
  refine q_aload_n C 0 rfl rfl dX2_init_50 ?_
  refine q_aload_n C 0 rfl rfl dX2_init_51 ?_
  refine q_get (v := .int (gI ((gza (gza (gu (gu M a0 3 (-1) (M a1 1 (-1))) a0 4 (-1) a1) a0 5) a0 6) a0 3 (-1)))) C fX2_15 (gKp_k kn23 (gKp_k kn13 hk0 (by decide)) (by decide)) rfl dX2_init_52 (fun g25 => ?_)
  have h := h g25
  refine q_aload_n C 0 rfl rfl dX2_init_55 ?_
  refine q_get (v := .int (gI ((gza (gza (gu (gu M a0 3 (-1) (M a1 1 (-1))) a0 4 (-1) a1) a0 5) a0 6) a0 3 (-1)))) C fX2_15 (gKp_k kn23 (gKp_k kn13 hk0 (by decide)) (by decide)) rfl dX2_init_56 (fun g26 => ?_)
  refine q_imul C dX2_init_59 ?_
  obtain ⟨r27, h⟩ := h
  obtain ⟨r28, h⟩ := h
  obtain ⟨r29, h⟩ := h
  refine q_newput (t0 := 0) (ty := .int) C hin fX2_29 (fun _ _ _ q => by cases q; rfl) (gKp_k kn23 (gKp_k kn13 hk0 (by decide)) (by decide)) rfl rfl ac8 rfl (fun _ => rfl) (fun _ _ _ => rfl) (fun _ _ _ q => by cases q; rfl) r27 r28 (by decide) r29.1 r29.2 dX2_init_60 dX2_init_62 (fun ln30 rh31 e32 kn33 => ?_)
  have h := h ln30 e32
  have kp34 := gKp_t kp24 kn33
  refine q_aload_n C 0 rfl rfl dX2_init_65 ?_
  refine q_aload_n C 0 rfl rfl dX2_init_66 ?_
  refine q_get (v := .int (gI ((gza (gza (gza (gu (gu M a0 3 (-1) (M a1 1 (-1))) a0 4 (-1) a1) a0 5) a0 6) a0 7) a0 3 (-1)))) C fX2_15 (gKp_k kn33 (gKp_k kn23 (gKp_k kn13 hk0 (by decide)) (by decide)) (by decide)) rfl dX2_init_67 (fun g35 => ?_)
  have h := h g35
  refine q_aload_n C 0 rfl rfl dX2_init_70 ?_
  refine q_get (v := .int (gI ((gza (gza (gza (gu (gu M a0 3 (-1) (M a1 1 (-1))) a0 4 (-1) a1) a0 5) a0 6) a0 7) a0 3 (-1)))) C fX2_15 (gKp_k kn33 (gKp_k kn23 (gKp_k kn13 hk0 (by decide)) (by decide)) (by decide)) rfl dX2_init_71 (fun g36 => ?_)
  refine q_imul C dX2_init_74 ?_
  obtain ⟨r37, h⟩ := h
  obtain ⟨r38, h⟩ := h
  obtain ⟨r39, h⟩ := h
  refine q_newput (t0 := 0) (ty := .int) C hin fX2_32 (fun _ _ _ q => by cases q; rfl) (gKp_k kn33 (gKp_k kn23 (gKp_k kn13 hk0 (by decide)) (by decide)) (by decide)) rfl rfl ac8 rfl (fun _ => rfl) (fun _ _ _ => rfl) (fun _ _ _ q => by cases q; rfl) r37 r38 (by decide) r39.1 r39.2 dX2_init_75 dX2_init_77 (fun ln40 rh41 e42 kn43 => ?_)
  have h := h ln40 e42
  have kp44 := gKp_t kp34 kn43
  refine q_aload_n C 0 rfl rfl dX2_init_80 ?_
  refine q_aload_n C 0 rfl rfl dX2_init_81 ?_
  refine q_get (v := .int (gI ((gza (gza (gza (gza (gu (gu M a0 3 (-1) (M a1 1 (-1))) a0 4 (-1) a1) a0 5) a0 6) a0 7) a0 1) a0 3 (-1)))) C fX2_15 (gKp_k kn43 (gKp_k kn33 (gKp_k kn23 (gKp_k kn13 hk0 (by decide)) (by decide)) (by decide)) (by decide)) rfl dX2_init_82 (fun g45 => ?_)
  have h := h g45
  refine q_aload_n C 0 rfl rfl dX2_init_85 ?_
  refine q_get (v := .int (gI ((gza (gza (gza (gza (gu (gu M a0 3 (-1) (M a1 1 (-1))) a0 4 (-1) a1) a0 5) a0 6) a0 7) a0 1) a0 3 (-1)))) C fX2_15 (gKp_k kn43 (gKp_k kn33 (gKp_k kn23 (gKp_k kn13 hk0 (by decide)) (by decide)) (by decide)) (by decide)) rfl dX2_init_86 (fun g46 => ?_)
  refine q_imul C dX2_init_89 ?_
  obtain ⟨r47, h⟩ := h
  obtain ⟨r48, h⟩ := h
  obtain ⟨r49, h⟩ := h
  refine q_newput (t0 := 0) (ty := .int) C hin fX2_35 (fun _ _ _ q => by cases q; rfl) (gKp_k kn43 (gKp_k kn33 (gKp_k kn23 (gKp_k kn13 hk0 (by decide)) (by decide)) (by decide)) (by decide)) rfl rfl ac8 rfl (fun _ => rfl) (fun _ _ _ => rfl) (fun _ _ _ q => by cases q; rfl) r47 r48 (by decide) r49.1 r49.2 dX2_init_90 dX2_init_92 (fun ln50 rh51 e52 kn53 => ?_)
  have h := h ln50 e52
  have kp54 := gKp_t kp44 kn53
  refine q_aload_n C 0 rfl rfl dX2_init_95 ?_
  obtain ⟨r55, h⟩ := h
  refine q_get (v := .ref (rh51 a0 5)) C fX2_23 (gKp_k kn53 (gKp_k kn43 (gKp_k kn33 (gKp_k kn23 (gKp_k kn13 hk0 (by decide)) (by decide)) (by decide)) (by decide)) (by decide)) (if_neg (Int.not_lt.mpr r55)) dX2_init_96 (fun g56 => ?_)
  refine q_iconst C dX2_init_99 ?_
  refine q_callSV (As := [.ref (rh51 a0 5), .int (gI (-1))]) (st := []) C vX2_38 kJ7_fill_53178 r49 ⟨Nat.le_of_ble_eq_true rfl, Nat.le_of_ble_eq_true rfl⟩ rfl rfl (Nat.le_of_ble_eq_true rfl) (mJ7_fill_53178 l D cy kd ln50 rh51 _ a0 5 (-1) (gza (gza (gza (gza (gza (gu (gu M a0 3 (-1) (M a1 1 (-1))) a0 4 (-1) a1) a0 5) a0 6) a0 7) a0 1) a0 2) (by rw [(gKp_k kn53 (gKp_k kn43 (gKp_k kn33 (gKp_k kn23 (gKp_k kn13 hk0 (by decide)) (by decide)) (by decide)) (by decide)) (by decide))]; rfl) (fun _ q => by rw [(gKp_k kn53 (gKp_k kn43 (gKp_k kn33 (gKp_k kn23 (gKp_k kn13 hk0 (by decide)) (by decide)) (by decide)) (by decide)) (by decide))]; exact q) h) dX2_init_100 (fun M57 h => ?_)
  refine q_iconst C dX2_init_103 ?_
  refine q_istore_n (lv' := [(3, .int (gI 0)), (0, .ref (gad a0)), (1, .ref (gad a1)), (2, .int (gI a2))]) C rfl (by decide) rfl dX2_init_104 ?_
  refine q_lv (lv' := [(0, .ref (gad a0)), (1, .ref (gad a1)), (2, .int (gI a2)), (3, .int (gI 0))]) [1, 2, 3, 0] rfl ?_
  obtain ⟨j105, h⟩ := h
  exact t105  j105 kd ln50 rh51 (0 + 1 + 1 + 1 + 1 + 1) (0 + Int.toNat (((gu (gu M a0 3 (-1) (M a1 1 (-1))) a0 4 (-1) a1) a0 3 (-1)) * ((gu (gu M a0 3 (-1) (M a1 1 (-1))) a0 4 (-1) a1) a0 3 (-1))) + Int.toNat (((gza (gu (gu M a0 3 (-1) (M a1 1 (-1))) a0 4 (-1) a1) a0 5) a0 3 (-1)) * ((gza (gu (gu M a0 3 (-1) (M a1 1 (-1))) a0 4 (-1) a1) a0 5) a0 3 (-1))) + Int.toNat (((gza (gza (gu (gu M a0 3 (-1) (M a1 1 (-1))) a0 4 (-1) a1) a0 5) a0 6) a0 3 (-1)) * ((gza (gza (gu (gu M a0 3 (-1) (M a1 1 (-1))) a0 4 (-1) a1) a0 5) a0 6) a0 3 (-1))) + Int.toNat (((gza (gza (gza (gu (gu M a0 3 (-1) (M a1 1 (-1))) a0 4 (-1) a1) a0 5) a0 6) a0 7) a0 3 (-1)) * ((gza (gza (gza (gu (gu M a0 3 (-1) (M a1 1 (-1))) a0 4 (-1) a1) a0 5) a0 6) a0 7) a0 3 (-1))) + Int.toNat (((gza (gza (gza (gza (gu (gu M a0 3 (-1) (M a1 1 (-1))) a0 4 (-1) a1) a0 5) a0 6) a0 7) a0 1) a0 3 (-1)) * ((gza (gza (gza (gza (gu (gu M a0 3 (-1) (M a1 1 (-1))) a0 4 (-1) a1) a0 5) a0 6) a0 7) a0 1) a0 3 (-1)))) kp54 0 M57 h
set_option maxHeartbeats 4000000 in
set_option maxRecDepth 100000 in
theorem mX0_pairsFor (l : Launch) (D : va_G) (cy : Nat → ClassId) (mc ms : Nat) (kd : gKd) (ln : gLn) (rh : gRh) (post : Int → gKd → gLn → gM → Prop) (a0 : Int) (a1 : Int) (M : gM) (hk0 : kd a0 = 0) (h : wX0_pairsFor mc ms kd ln post a0 a1 M) : gXR l D cy yX0_pairsFor cX0_pairsFor 2 RX2 3 68 mc ms [.ref (gad a0), .int (gI a1)] kd ln rh M post := by
  refine gXR_of (own := RX0) (by decide) rfl (Nat.le_of_ble_eq_true rfl) ?_
  intro p e s m args below meth c A H0 Q C hin hret
  have t29 : ∀ (kd_ : gKd) (ln_ : gLn) (rh_ : gRh) (c_ s_ : Nat) (kp_ : gKp kd ln rh kd_ ln_ rh_) (y0 : Int) (M : gM), wX0_pairsFor_29 mc ms post a0 a1 kd_ ln_ c_ s_ y0 M → gW p l e (gRx 3 68 mc ms) s m args below meth c D cy A H0 Q 2 kd_ ln_ rh_ c_ s_ M 29 [(0, .ref (gad a0))] [.ref (gad y0), .ref (gad a0)] := by
    intro  kd_ ln_ rh_ c_ s_ kp_ y0 M h
    unfold wX0_pairsFor_29 at h
    obtain ⟨r53, h⟩ := h
    obtain ⟨r54, h⟩ := h
    obtain ⟨r55, h⟩ := h
    refine q_putO (x := y0) (Cn := RX2) C fX0_120 (gKp_k kp_ hk0 (by decide)) (fun _ _ _ q => by cases q; rfl) rfl r55 (Int.le_of_lt r55) dX0_pairsFor_29 ?_
    refine q_aload_n C 0 rfl rfl dX0_pairsFor_32 ?_
    refine q_get (v := gR ((gu M a0 10 (-1) y0) a0 10 (-1))) C fX0_120 (gKp_k kp_ hk0 (by decide)) rfl dX0_pairsFor_33 (fun g56 => ?_)
    obtain ⟨r57, h⟩ := h
    refine q_nn r57 (by decide) ?_
    exact hret ((gu M a0 10 (-1) y0) a0 10 (-1)) kd_ ln_ rh_ (gu M a0 10 (-1) y0) _ _ _ _ r54.1 r54.2 kp_ dX0_pairsFor_36 h
  have t62 : ∀ (kd_ : gKd) (ln_ : gLn) (rh_ : gRh) (c_ s_ : Nat) (kp_ : gKp kd ln rh kd_ ln_ rh_) (y0 : Int) (M : gM), wX0_pairsFor_62 mc ms post a0 a1 kd_ ln_ c_ s_ y0 M → gW p l e (gRx 3 68 mc ms) s m args below meth c D cy A H0 Q 2 kd_ ln_ rh_ c_ s_ M 62 [(0, .ref (gad a0))] [.ref (gad y0), .ref (gad a0)] := by
    intro  kd_ ln_ rh_ c_ s_ kp_ y0 M h
    unfold wX0_pairsFor_62 at h
    obtain ⟨r58, h⟩ := h
    obtain ⟨r59, h⟩ := h
    obtain ⟨r60, h⟩ := h
    refine q_putO (x := y0) (Cn := RX2) C fX0_129 (gKp_k kp_ hk0 (by decide)) (fun _ _ _ q => by cases q; rfl) rfl r60 (Int.le_of_lt r60) dX0_pairsFor_62 ?_
    refine q_aload_n C 0 rfl rfl dX0_pairsFor_65 ?_
    refine q_get (v := gR ((gu M a0 9 (-1) y0) a0 9 (-1))) C fX0_129 (gKp_k kp_ hk0 (by decide)) rfl dX0_pairsFor_66 (fun g61 => ?_)
    obtain ⟨r62, h⟩ := h
    refine q_nn r62 (by decide) ?_
    exact hret ((gu M a0 9 (-1) y0) a0 9 (-1)) kd_ ln_ rh_ (gu M a0 9 (-1) y0) _ _ _ _ r59.1 r59.2 kp_ dX0_pairsFor_69 h
  unfold wX0_pairsFor at h
  refine q_iload_n C 1 rfl rfl dX0_pairsFor_0 ?_
  refine q_iconst C dX0_pairsFor_1 ?_
  obtain ⟨r1, h⟩ := h
  refine q_icmp_ne (tgt := 37) C r1 (show rng 2 by decide) (by decide) dX0_pairsFor_2 (fun b2 => ?_) (fun b2 => ?_)
  · have h := h.1 b2
    refine q_aload_n C 0 rfl rfl dX0_pairsFor_37 ?_
    refine q_aload_n C 0 rfl rfl dX0_pairsFor_38 ?_
    refine q_get (v := gR (M a0 9 (-1))) C fX0_129 hk0 rfl dX0_pairsFor_39 (fun g3 => ?_)
    refine q_ifnonnull (tgt := 58) C (by decide) dX0_pairsFor_42 (fun b4 => ?_) (fun b4 => ?_)
    · have h := h.1 b4
      refine q_aload_n C 0 rfl rfl dX0_pairsFor_58 ?_
      refine q_get (v := gR (M a0 9 (-1))) C fX0_129 hk0 rfl dX0_pairsFor_59 (fun g5 => ?_)
      obtain ⟨r6, h⟩ := h
      refine q_nn r6 (by decide) ?_
      refine q_lv (lv' := [(0, .ref (gad a0))]) [0] rfl ?_
      exact t62  kd ln rh 0 0 gKp_r (M a0 9 (-1)) M h
    · have h := h.2 b4
      obtain ⟨r7, h⟩ := h
      refine q_new C wX0_124 r7.1 r7.2 dX0_pairsFor_45 (fun o8 kd9 M10 g11 g12 g13 e14 e15 kn16 => ?_)
      have h := h o8 kd9 M10 g11 g12 g13 e14 e15
      have hk17 : kd9 o8 = 2 := by rw [e14]; exact gkn_s
      have kp18 := gKp_t gKp_r kn16
      refine q_dup C rfl dX0_pairsFor_48 ?_
      refine q_aload_n C 0 rfl rfl dX0_pairsFor_49 ?_
      refine q_bipush C (by decide) dX0_pairsFor_50 ?_
      obtain ⟨mc19, ms20, r26, h⟩ := h
      refine q_callIX (As := [.ref (gad a0), .int (gI 8)]) (st := [.ref (gad o8), .ref (gad a0)]) (o := o8) C iX0_126 kX2_init r26 ⟨Nat.le_of_ble_eq_true rfl, Nat.le_of_ble_eq_true rfl⟩ rfl rfl (Nat.le_of_ble_eq_true rfl) (mX2_init l D cy mc19 ms20 kd9 ln rh _ o8 a0 8 M10 hk17 (gKp_k kn16 hk0 (by decide)) h) dX0_pairsFor_52 (fun kd21 ln22 rh23 M24 kn25 h => ?_)
      have kp27 := gKp_t kp18 kn25
      refine q_goto (tgt := 62) C (by decide) dX0_pairsFor_55 ?_
      refine q_lv (lv' := [(0, .ref (gad a0))]) [0] rfl ?_
      exact t62  kd21 ln22 rh23 (0 + 1 + mc19) (0 + 8 + ms20) kp27 o8 M24 h
  · have h := h.2 b2
    refine q_aload_n C 0 rfl rfl dX0_pairsFor_5 ?_
    refine q_aload_n C 0 rfl rfl dX0_pairsFor_6 ?_
    refine q_get (v := gR (M a0 10 (-1))) C fX0_120 hk0 rfl dX0_pairsFor_7 (fun g28 => ?_)
    refine q_ifnonnull (tgt := 25) C (by decide) dX0_pairsFor_10 (fun b29 => ?_) (fun b29 => ?_)
    · have h := h.1 b29
      refine q_aload_n C 0 rfl rfl dX0_pairsFor_25 ?_
      refine q_get (v := gR (M a0 10 (-1))) C fX0_120 hk0 rfl dX0_pairsFor_26 (fun g30 => ?_)
      obtain ⟨r31, h⟩ := h
      refine q_nn r31 (by decide) ?_
      refine q_lv (lv' := [(0, .ref (gad a0))]) [0] rfl ?_
      exact t29  kd ln rh 0 0 gKp_r (M a0 10 (-1)) M h
    · have h := h.2 b29
      obtain ⟨r32, h⟩ := h
      refine q_new C wX0_124 r32.1 r32.2 dX0_pairsFor_13 (fun o33 kd34 M35 g36 g37 g38 e39 e40 kn41 => ?_)
      have h := h o33 kd34 M35 g36 g37 g38 e39 e40
      have hk42 : kd34 o33 = 2 := by rw [e39]; exact gkn_s
      have kp43 := gKp_t gKp_r kn41
      refine q_dup C rfl dX0_pairsFor_16 ?_
      refine q_aload_n C 0 rfl rfl dX0_pairsFor_17 ?_
      refine q_iconst C dX0_pairsFor_18 ?_
      obtain ⟨mc44, ms45, r51, h⟩ := h
      refine q_callIX (As := [.ref (gad a0), .int (gI 2)]) (st := [.ref (gad o33), .ref (gad a0)]) (o := o33) C iX0_126 kX2_init r51 ⟨Nat.le_of_ble_eq_true rfl, Nat.le_of_ble_eq_true rfl⟩ rfl rfl (Nat.le_of_ble_eq_true rfl) (mX2_init l D cy mc44 ms45 kd34 ln rh _ o33 a0 2 M35 hk42 (gKp_k kn41 hk0 (by decide)) h) dX0_pairsFor_19 (fun kd46 ln47 rh48 M49 kn50 h => ?_)
      have kp52 := gKp_t kp43 kn50
      refine q_goto (tgt := 29) C (by decide) dX0_pairsFor_22 ?_
      refine q_lv (lv' := [(0, .ref (gad a0))]) [0] rfl ?_
      exact t29  kd46 ln47 rh48 (0 + 1 + mc44) (0 + 8 + ms45) kp52 o33 M49 h
set_option maxHeartbeats 4000000 in
set_option maxRecDepth 100000 in
theorem mX5_lay (l : Launch) (D : va_G) (cy : Nat → ClassId) (kd : gKd) (ln : gLn) (rh : gRh) (post : Int → gM → Prop) (a0 : Int) (a1 : Int) (M : gM) (hk0 : kd a0 = 5) (h : wX5_lay kd ln post a0 a1 M) : gMI l D cy yX5_lay cX5_lay 8 .int 3 72 [.ref (gad a0), .int (gI a1)] kd ln rh M post := by
  refine gMI_of (own := RX5) (by decide) rfl (Nat.le_of_ble_eq_true rfl) ?_
  intro p e s m args below meth c A H0 Q C hret
  have t143 : ∀ (k26 : Int → Int → Int → Int → gM → Prop), (∀ (x2 : Int), ∀ (x3 : Int), ∀ (x4 : Int), ∀ (x5 : Int), ∀ (M : gM), k26 x2 x3 x4 x5 M → gW p l e (gRm 3 72) s m args below meth c D cy A H0 Q 8 kd ln rh 0 0 M 26 [(0, .ref (gad a0)), (1, .int (gI a1)), (2, .int (gI x2)), (3, .int (gI x3)), (4, .int (gI x4)), (5, .int (gI x5))] []) → ∀ (x2 : Int) (x3 : Int) (x4 : Int) (x5 : Int) (M : gM), wX5_lay_143 kd ln post a0 a1 k26 x2 x3 x4 x5 M → gW p l e (gRm 3 72) s m args below meth c D cy A H0 Q 8 kd ln rh 0 0 M 143 [(0, .ref (gad a0)), (1, .int (gI a1)), (2, .int (gI x2)), (3, .int (gI x3)), (4, .int (gI x4)), (5, .int (gI x5))] [] := by
    intro k26 hk26_ x2 x3 x4 x5 M h
    unfold wX5_lay_143 at h
    refine q_iinc (lv' := [(5, .int (gI (x5 + 1))), (0, .ref (gad a0)), (1, .int (gI a1)), (2, .int (gI x2)), (3, .int (gI x3)), (4, .int (gI x4))]) C 5 rfl (by decide) rfl dX5_lay_143 ?_
    refine q_goto (tgt := 26) C (by decide) dX5_lay_146 ?_
    refine q_lv (lv' := [(0, .ref (gad a0)), (1, .int (gI a1)), (2, .int (gI x2)), (3, .int (gI x3)), (4, .int (gI x4)), (5, .int (gI (x5 + 1)))]) [1, 2, 3, 4, 5, 0] rfl ?_
    exact hk26_ x2 x3 x4 (x5 + 1) M h
  have t69 : ∀ (k26 : Int → Int → Int → Int → gM → Prop), (∀ (x2 : Int), ∀ (x3 : Int), ∀ (x4 : Int), ∀ (x5 : Int), ∀ (M : gM), k26 x2 x3 x4 x5 M → gW p l e (gRm 3 72) s m args below meth c D cy A H0 Q 8 kd ln rh 0 0 M 26 [(0, .ref (gad a0)), (1, .int (gI a1)), (2, .int (gI x2)), (3, .int (gI x3)), (4, .int (gI x4)), (5, .int (gI x5))] []) → ∀ (x2 : Int) (x3 : Int) (x4 : Int) (x5 : Int) (x6 : Int) (y0 : Int) (M : gM), wX5_lay_69 kd ln post a0 a1 k26 x2 x3 x4 x5 x6 y0 M → gW p l e (gRm 3 72) s m args below meth c D cy A H0 Q 8 kd ln rh 0 0 M 69 [(0, .ref (gad a0)), (1, .int (gI a1)), (2, .int (gI x2)), (3, .int (gI x3)), (4, .int (gI x4)), (5, .int (gI x5)), (6, .int (gI x6))] [.int (gI y0)] := by
    intro k26 hk26_ x2 x3 x4 x5 x6 y0 M h
    unfold wX5_lay_69 at h
    refine q_istore (lv' := [(7, .int (gI y0)), (0, .ref (gad a0)), (1, .int (gI a1)), (2, .int (gI x2)), (3, .int (gI x3)), (4, .int (gI x4)), (5, .int (gI x5)), (6, .int (gI x6))]) C (by decide) rfl dX5_lay_69 ?_
    refine q_iload C 0 rfl dX5_lay_71 ?_
    obtain ⟨r29, h⟩ := h
    refine q_if_eq (tgt := 143) C r29 (by decide) dX5_lay_73 (fun b30 => ?_) (fun b30 => ?_)
    · have h := h.1 b30
      refine q_lv (lv' := [(0, .ref (gad a0)), (1, .int (gI a1)), (2, .int (gI x2)), (3, .int (gI x3)), (4, .int (gI x4)), (5, .int (gI x5))]) [1, 2, 3, 4, 5, 6] rfl ?_
      exact t143 k26 hk26_ x2 x3 x4 x5 M h
    · have h := h.2 b30
      refine q_aload_n C 1 rfl rfl dX5_lay_76 ?_
      refine q_get (v := gR (M a0 8 (-1))) C fX5_27 hk0 rfl dX5_lay_77 (fun g31 => ?_)
      obtain ⟨r32, h⟩ := h
      refine q_nn r32 (by decide) ?_
      refine q_aload_n C 1 rfl rfl dX5_lay_80 ?_
      refine q_get (v := .int (gI (M a0 0 (-1)))) C fX5_31 hk0 rfl dX5_lay_81 (fun g33 => ?_)
      have h := h g33
      refine q_iload_n C 3 rfl rfl dX5_lay_84 ?_
      refine q_iload_n C 4 rfl rfl dX5_lay_85 ?_
      refine q_iload C 6 rfl dX5_lay_86 ?_
      refine q_iconst C dX5_lay_88 ?_
      refine q_callVI (As := [.int (gI (M a0 0 (-1))), .int (gI x2), .int (gI x3), .int (gI x5), .int (gI 1)]) (st := []) C vX5_80 kX0_allows ⟨Nat.le_of_ble_eq_true rfl, Nat.le_of_ble_eq_true rfl⟩ ⟨Nat.le_of_ble_eq_true rfl, Nat.le_of_ble_eq_true rfl⟩ rfl r32 ⟨_, _, rfl⟩ (by decide) rfl (Nat.le_of_ble_eq_true rfl) (mX0_allows l D cy kd ln rh _ (M a0 8 (-1)) (M a0 0 (-1)) x2 x3 x5 1 M r32 h) dX5_lay_89 (fun c35 M34 g36 h => ?_)
      have h := h g36
      refine q_if_ne (tgt := 98) C g36 (by decide) dX5_lay_92 (fun b37 => ?_) (fun b37 => ?_)
      · have h := h.1 b37
        refine q_aload_n C 1 rfl rfl dX5_lay_98 ?_
        obtain ⟨r38, h⟩ := h
        refine q_get (v := .ref (rh a0 1)) C fX5_44 hk0 (if_neg (Int.not_lt.mpr r38)) dX5_lay_99 (fun g39 => ?_)
        refine q_iload C 7 rfl dX5_lay_102 ?_
        refine q_iconst C dX5_lay_104 ?_
        obtain ⟨r40, h⟩ := h
        refine q_bast C hk0 rfl (rng8 (show (-128 : Int) ≤ (-1) ∧ ((-1) : Int) < 128 by decide)) (show (-128 : Int) ≤ (-1) ∧ ((-1) : Int) < 128 by decide) r40 dX5_lay_105 ?_
        refine q_iinc (lv' := [(4, .int (gI (x4 + 1))), (7, .int (gI y0)), (0, .ref (gad a0)), (1, .int (gI a1)), (2, .int (gI x2)), (3, .int (gI x3)), (5, .int (gI x5)), (6, .int (gI x6))]) C 5 rfl (by decide) rfl dX5_lay_106 ?_
        refine q_aload_n C 2 rfl rfl dX5_lay_109 ?_
        refine q_get (v := gR ((gu M34 a0 1 x6 (-1)) a0 8 (-1))) C fX5_27 hk0 rfl dX5_lay_110 (fun g41 => ?_)
        obtain ⟨r42, h⟩ := h
        refine q_nn r42 (by decide) ?_
        refine q_aload_n C 2 rfl rfl dX5_lay_113 ?_
        refine q_get (v := .int (gI ((gu M34 a0 1 x6 (-1)) a0 0 (-1)))) C fX5_31 hk0 rfl dX5_lay_114 (fun g43 => ?_)
        have h := h g43
        refine q_iload_n C 4 rfl rfl dX5_lay_117 ?_
        refine q_iload_n C 5 rfl rfl dX5_lay_118 ?_
        refine q_iload C 6 rfl dX5_lay_119 ?_
        refine q_callVI (As := [.int (gI ((gu M34 a0 1 x6 (-1)) a0 0 (-1))), .int (gI x2), .int (gI x3), .int (gI x5)]) (st := []) C vX5_84 kX0_attacks ⟨Nat.le_of_ble_eq_true rfl, Nat.le_of_ble_eq_true rfl⟩ ⟨Nat.le_of_ble_eq_true rfl, Nat.le_of_ble_eq_true rfl⟩ rfl r42 ⟨_, _, rfl⟩ (by decide) rfl (Nat.le_of_ble_eq_true rfl) (mX0_attacks l D cy kd ln rh _ ((gu M34 a0 1 x6 (-1)) a0 8 (-1)) ((gu M34 a0 1 x6 (-1)) a0 0 (-1)) x2 x3 x5 (gu M34 a0 1 x6 (-1)) r42 h) dX5_lay_121 (fun c45 M44 g46 h => ?_)
        have h := h g46
        refine q_if_ne (tgt := 143) C g46 (by decide) dX5_lay_124 (fun b47 => ?_) (fun b47 => ?_)
        · have h := h.1 b47
          refine q_lv (lv' := [(0, .ref (gad a0)), (1, .int (gI a1)), (2, .int (gI x2)), (3, .int (gI x3)), (4, .int (gI (x4 + 1))), (5, .int (gI x5))]) [2, 3, 4, 5, 0, 6] rfl ?_
          exact t143 k26 hk26_ x2 x3 (x4 + 1) x5 M44 h
        · have h := h.2 b47
          refine q_aload_n C 2 rfl rfl dX5_lay_127 ?_
          refine q_get (v := .ref (rh a0 1)) C fX5_44 hk0 (if_neg (Int.not_lt.mpr r38)) dX5_lay_128 (fun g48 => ?_)
          refine q_iload_n C 3 rfl rfl dX5_lay_131 ?_
          refine q_iload C 6 rfl dX5_lay_132 ?_
          refine q_iconst C dX5_lay_134 ?_
          refine q_callSI (As := [.int (gI a1), .int (gI x5), .int (gI 0)]) (st := [.ref (rh a0 1)]) C vX5_72 kX5_cellAt ⟨Nat.le_of_ble_eq_true rfl, Nat.le_of_ble_eq_true rfl⟩ ⟨Nat.le_of_ble_eq_true rfl, Nat.le_of_ble_eq_true rfl⟩ rfl rfl (Nat.le_of_ble_eq_true rfl) (mX5_cellAt l D cy kd ln rh _ a1 x5 0 M44  h) dX5_lay_135 (fun c50 M49 g51 h => ?_)
          have h := h g51
          refine q_iconst C dX5_lay_138 ?_
          obtain ⟨r52, h⟩ := h
          refine q_bast C hk0 rfl (rng8 (show (-128 : Int) ≤ (-1) ∧ ((-1) : Int) < 128 by decide)) (show (-128 : Int) ≤ (-1) ∧ ((-1) : Int) < 128 by decide) r52 dX5_lay_139 ?_
          refine q_iinc (lv' := [(4, .int (gI ((x4 + 1) + 1))), (7, .int (gI y0)), (0, .ref (gad a0)), (1, .int (gI a1)), (2, .int (gI x2)), (3, .int (gI x3)), (5, .int (gI x5)), (6, .int (gI x6))]) C 0 rfl (by decide) rfl dX5_lay_140 ?_
          refine q_lv (lv' := [(0, .ref (gad a0)), (1, .int (gI a1)), (2, .int (gI x2)), (3, .int (gI x3)), (4, .int (gI ((x4 + 1) + 1))), (5, .int (gI x5))]) [2, 3, 4, 5, 0, 6] rfl ?_
          exact t143 k26 hk26_ x2 x3 ((x4 + 1) + 1) x5 (gu M49 a0 1 c50 (-1)) h
      · have h := h.2 b37
        refine q_goto (tgt := 143) C (by decide) dX5_lay_95 ?_
        refine q_lv (lv' := [(0, .ref (gad a0)), (1, .int (gI a1)), (2, .int (gI x2)), (3, .int (gI x3)), (4, .int (gI x4)), (5, .int (gI x5))]) [1, 2, 3, 4, 5, 6] rfl ?_
        exact t143 k26 hk26_ x2 x3 x4 x5 M34 h
  have t26 : ∀ (n : Nat) (x2 : Int) (x3 : Int) (x4 : Int) (x5 : Int) (M : gM), wX5_lay_26 kd ln post a0 a1 n x2 x3 x4 x5 M → gW p l e (gRm 3 72) s m args below meth c D cy A H0 Q 8 kd ln rh 0 0 M 26 [(0, .ref (gad a0)), (1, .int (gI a1)), (2, .int (gI x2)), (3, .int (gI x3)), (4, .int (gI x4)), (5, .int (gI x5))] [] := by
    intro n
    induction n with
    | zero => intro x2 x3 x4 x5 M h; exact absurd h (by simp [wX5_lay_26])
    | succ n ih =>
      intro x2 x3 x4 x5 M h
      have hk26_ := ih
      rw [wX5_lay_26] at h
      refine q_iload C 5 rfl dX5_lay_26 ?_
      refine q_aload_n C 0 rfl rfl dX5_lay_28 ?_
      refine q_get (v := gR (M a0 8 (-1))) C fX5_27 hk0 rfl dX5_lay_29 (fun g14 => ?_)
      obtain ⟨r15, h⟩ := h
      refine q_nn r15 (by decide) ?_
      refine q_get (v := .int (gI (M (M a0 8 (-1)) 1 (-1)))) C fX5_67 r15 rfl dX5_lay_32 (fun g16 => ?_)
      have h := h g16
      obtain ⟨r17, h⟩ := h
      refine q_icmp_ge (tgt := 149) C r17 g16 (by decide) dX5_lay_35 (fun b18 => ?_) (fun b18 => ?_)
      · have h := h.1 b18
        refine q_iload C 4 rfl dX5_lay_149 ?_
        obtain ⟨r19, h⟩ := h
        exact hret x4 M _ _ dX5_lay_151 r19 h
      · have h := h.2 b18
        refine q_iload_n C 1 rfl rfl dX5_lay_38 ?_
        refine q_iload C 5 rfl dX5_lay_39 ?_
        refine q_iconst C dX5_lay_41 ?_
        refine q_callSI (As := [.int (gI a1), .int (gI x5), .int (gI 1)]) (st := []) C vX5_72 kX5_cellAt ⟨Nat.le_of_ble_eq_true rfl, Nat.le_of_ble_eq_true rfl⟩ ⟨Nat.le_of_ble_eq_true rfl, Nat.le_of_ble_eq_true rfl⟩ rfl rfl (Nat.le_of_ble_eq_true rfl) (mX5_cellAt l D cy kd ln rh _ a1 x5 1 M  h) dX5_lay_42 (fun c21 M20 g22 h => ?_)
        have h := h g22
        refine q_istore (lv' := [(6, .int (gI c21)), (0, .ref (gad a0)), (1, .int (gI a1)), (2, .int (gI x2)), (3, .int (gI x3)), (4, .int (gI x4)), (5, .int (gI x5))]) C (by decide) rfl dX5_lay_45 ?_
        refine q_aload_n C 1 rfl rfl dX5_lay_47 ?_
        refine q_get (v := gR (M20 a0 2 (-1))) C fX5_35 hk0 rfl dX5_lay_48 (fun g23 => ?_)
        obtain ⟨r24, h⟩ := h
        refine q_nn r24 (by decide) ?_
        refine q_iload_n C 3 rfl rfl dX5_lay_51 ?_
        refine q_iload_n C 4 rfl rfl dX5_lay_52 ?_
        refine q_iload C 6 rfl dX5_lay_53 ?_
        refine q_iconst C dX5_lay_55 ?_
        refine q_callVI (As := [.int (gI x2), .int (gI x3), .int (gI x5), .int (gI 1)]) (st := []) C vX5_76 kX2_cellOf ⟨Nat.le_of_ble_eq_true rfl, Nat.le_of_ble_eq_true rfl⟩ ⟨Nat.le_of_ble_eq_true rfl, Nat.le_of_ble_eq_true rfl⟩ rfl r24 ⟨_, _, rfl⟩ (by decide) rfl (Nat.le_of_ble_eq_true rfl) (mX2_cellOf l D cy kd ln rh _ (M20 a0 2 (-1)) x2 x3 x5 1 M20 r24 h) dX5_lay_56 (fun c26 M25 g27 h => ?_)
        have h := h g27
        refine q_iload C 0 rfl dX5_lay_59 ?_
        refine q_icmp_ne (tgt := 68) C g27 g22 (by decide) dX5_lay_61 (fun b28 => ?_) (fun b28 => ?_)
        · have h := h.1 b28
          refine q_iconst C dX5_lay_68 ?_
          refine q_lv (lv' := [(0, .ref (gad a0)), (1, .int (gI a1)), (2, .int (gI x2)), (3, .int (gI x3)), (4, .int (gI x4)), (5, .int (gI x5)), (6, .int (gI c21))]) [1, 2, 3, 4, 5, 6, 0] rfl ?_
          exact t69 (wX5_lay_26 kd ln post a0 a1 n) hk26_ x2 x3 x4 x5 c21 0 M25 h
        · have h := h.2 b28
          refine q_iconst C dX5_lay_64 ?_
          refine q_goto (tgt := 69) C (by decide) dX5_lay_65 ?_
          refine q_lv (lv' := [(0, .ref (gad a0)), (1, .int (gI a1)), (2, .int (gI x2)), (3, .int (gI x3)), (4, .int (gI x4)), (5, .int (gI x5)), (6, .int (gI c21))]) [1, 2, 3, 4, 5, 6, 0] rfl ?_
          exact t69 (wX5_lay_26 kd ln post a0 a1 n) hk26_ x2 x3 x4 x5 c21 1 M25 h
  unfold wX5_lay at h
  refine q_aload_n C 0 rfl rfl dX5_lay_0 ?_
  refine q_get (v := gR (M a0 2 (-1))) C fX5_35 hk0 rfl dX5_lay_1 (fun g1 => ?_)
  obtain ⟨r2, h⟩ := h
  refine q_nn r2 (by decide) ?_
  obtain ⟨r3, h⟩ := h
  refine q_get (v := .ref (rh (M a0 2 (-1)) 1)) C fX5_61 r2 (if_neg (Int.not_lt.mpr r3)) dX5_lay_4 (fun g4 => ?_)
  refine q_iload_n C 1 rfl rfl dX5_lay_7 ?_
  obtain ⟨r5, h⟩ := h
  refine q_iald C r2 rfl (fun _ q => q) r5 dX5_lay_8 (fun g6 => ?_)
  have h := h g6
  refine q_topi (fun v7 ev7 => ?_)
  have h := h v7 ev7
  have gv7 : rng v7 := by rw [ev7]; exact g6
  refine q_istore_n (lv' := [(2, .int (gI v7)), (0, .ref (gad a0)), (1, .int (gI a1))]) C rfl (by decide) rfl dX5_lay_9 ?_
  refine q_aload_n C 1 rfl rfl dX5_lay_10 ?_
  refine q_get (v := gR (M a0 2 (-1))) C fX5_35 hk0 rfl dX5_lay_11 (fun g8 => ?_)
  refine q_nn r2 (by decide) ?_
  obtain ⟨r9, h⟩ := h
  refine q_get (v := .ref (rh (M a0 2 (-1)) 2)) C fX5_64 r2 (if_neg (Int.not_lt.mpr r9)) dX5_lay_14 (fun g10 => ?_)
  refine q_iload_n C 2 rfl rfl dX5_lay_17 ?_
  obtain ⟨r11, h⟩ := h
  refine q_iald C r2 rfl (fun _ q => q) r11 dX5_lay_18 (fun g12 => ?_)
  have h := h g12
  refine q_topi (fun v13 ev13 => ?_)
  have h := h v13 ev13
  have gv13 : rng v13 := by rw [ev13]; exact g12
  refine q_istore_n (lv' := [(3, .int (gI v13)), (2, .int (gI v7)), (0, .ref (gad a0)), (1, .int (gI a1))]) C rfl (by decide) rfl dX5_lay_19 ?_
  refine q_iconst C dX5_lay_20 ?_
  refine q_istore (lv' := [(4, .int (gI 0)), (3, .int (gI v13)), (2, .int (gI v7)), (0, .ref (gad a0)), (1, .int (gI a1))]) C (by decide) rfl dX5_lay_21 ?_
  refine q_iconst C dX5_lay_23 ?_
  refine q_istore (lv' := [(5, .int (gI 0)), (4, .int (gI 0)), (3, .int (gI v13)), (2, .int (gI v7)), (0, .ref (gad a0)), (1, .int (gI a1))]) C (by decide) rfl dX5_lay_24 ?_
  refine q_lv (lv' := [(0, .ref (gad a0)), (1, .int (gI a1)), (2, .int (gI v7)), (3, .int (gI v13)), (4, .int (gI 0)), (5, .int (gI 0))]) [4, 5, 3, 2, 1, 0] rfl ?_
  obtain ⟨j26, h⟩ := h
  exact t26  j26 v7 v13 0 0 M h
set_option maxHeartbeats 4000000 in
set_option maxRecDepth 100000 in
theorem mX5_size (l : Launch) (D : va_G) (cy : Nat → ClassId) (kd : gKd) (ln : gLn) (rh : gRh) (post : Int → gM → Prop) (a0 : Int) (M : gM) (hk0 : kd a0 = 5) (h : wX5_size kd ln post a0 M) : gMI l D cy yX5_size cX5_size 1 .int 0 0 [.ref (gad a0)] kd ln rh M post := by
  refine gMI_of (own := RX5) (by decide) rfl (Nat.le_of_ble_eq_true rfl) ?_
  intro p e s m args below meth c A H0 Q C hret
  unfold wX5_size at h
  refine q_aload_n C 0 rfl rfl dX5_size_0 ?_
  obtain ⟨r1, h⟩ := h
  refine q_get (v := .ref (rh a0 9)) C fX5_54 hk0 (if_neg (Int.not_lt.mpr r1)) dX5_size_1 (fun g2 => ?_)
  refine q_aload_n C 0 rfl rfl dX5_size_4 ?_
  refine q_get (v := gR (M a0 2 (-1))) C fX5_35 hk0 rfl dX5_size_5 (fun g3 => ?_)
  obtain ⟨r4, h⟩ := h
  refine q_nn r4 (by decide) ?_
  refine q_get (v := .int (gI (M (M a0 2 (-1)) 0 (-1)))) C fX5_39 r4 rfl dX5_size_8 (fun g5 => ?_)
  have h := h g5
  obtain ⟨r6, h⟩ := h
  refine q_iald C hk0 rfl (fun _ q => q) r6 dX5_size_11 (fun g7 => ?_)
  have h := h g7
  exact hret (M a0 9 (M (M a0 2 (-1)) 0 (-1))) M _ _ dX5_size_12 g7 h
set_option maxHeartbeats 4000000 in
set_option maxRecDepth 100000 in
theorem mX3_init (l : Launch) (D : va_G) (cy : Nat → ClassId) (mc ms : Nat) (kd : gKd) (ln : gLn) (rh : gRh) (post : gKd → gLn → gM → Prop) (a0 : Int) (a1 : Int) (a2 : Int) (M : gM) (hk0 : kd a0 = 3) (hk1 : kd a1 = 0) (hk2 : kd a2 = 5) (h : wX3_init mc ms kd ln post a0 a1 a2 M) : gXV l D cy yX3_init cX3_init 4 1 32 mc ms [.ref (gad a0), .ref (gad a1), .ref (gad a2)] kd ln rh M post := by
  refine gXV_of (own := RX3) (by decide) rfl (Nat.le_of_ble_eq_true rfl) ?_
  intro p e s m args below meth c A H0 Q C hin hret
  have t80 : ∀ (kd_ : gKd) (ln_ : gLn) (rh_ : gRh) (c_ s_ : Nat) (kp_ : gKp kd ln rh kd_ ln_ rh_) (y0 : Int) (M : gM), wX3_init_80 mc ms post a0 a1 a2 kd_ ln_ c_ s_ y0 M → gW p l e (gRx 1 32 mc ms) s m args below meth c D cy A H0 Q 4 kd_ ln_ rh_ c_ s_ M 80 [(0, .ref (gad a0))] [.int (gI y0)] := by
    intro  kd_ ln_ rh_ c_ s_ kp_ y0 M h
    unfold wX3_init_80 at h
    obtain ⟨r33, h⟩ := h
    refine q_istore_n (lv' := [(3, .int (gI y0)), (0, .ref (gad a0))]) C rfl (by decide) rfl dX3_init_80 ?_
    refine q_aload_n C 1 rfl rfl dX3_init_81 ?_
    refine q_iload_n C 0 rfl rfl dX3_init_82 ?_
    obtain ⟨r34, h⟩ := h
    obtain ⟨r35, h⟩ := h
    obtain ⟨r36, h⟩ := h
    refine q_newput (t0 := 0) (ty := .int) C hin fX3_56 (fun _ _ _ q => by cases q; rfl) (gKp_k kp_ hk0 (by decide)) rfl rfl ac8 rfl (fun _ => rfl) (fun _ _ _ => rfl) (fun _ _ _ q => by cases q; rfl) r34 r35 (by decide) r36.1 r36.2 dX3_init_83 dX3_init_85 (fun ln37 rh38 e39 kn40 => ?_)
    have h := h ln37 e39
    have kp41 := gKp_t kp_ kn40
    refine q_aload_n C 1 rfl rfl dX3_init_88 ?_
    refine q_iload_n C 0 rfl rfl dX3_init_89 ?_
    obtain ⟨r42, h⟩ := h
    obtain ⟨r43, h⟩ := h
    refine q_newput (t0 := 0) (ty := .int) C hin fX3_59 (fun _ _ _ q => by cases q; rfl) (gKp_k kn40 (gKp_k kp_ hk0 (by decide)) (by decide)) rfl rfl ac8 rfl (fun _ => rfl) (fun _ _ _ => rfl) (fun _ _ _ q => by cases q; rfl) r42 r35 (by decide) r43.1 r43.2 dX3_init_90 dX3_init_92 (fun ln44 rh45 e46 kn47 => ?_)
    have h := h ln44 e46
    have kp48 := gKp_t kp41 kn47
    refine q_aload_n C 1 rfl rfl dX3_init_95 ?_
    obtain ⟨r49, h⟩ := h
    refine q_get (v := .ref (rh45 a0 7)) C fX3_9 (gKp_k kn47 (gKp_k kn40 (gKp_k kp_ hk0 (by decide)) (by decide)) (by decide)) (if_neg (Int.not_lt.mpr r49)) dX3_init_96 (fun g50 => ?_)
    refine q_iconst C dX3_init_99 ?_
    refine q_callSV (As := [.ref (rh45 a0 7), .int (gI (-1))]) (st := []) C vX3_62 kJ7_fill_53178 r43 ⟨Nat.le_of_ble_eq_true rfl, Nat.le_of_ble_eq_true rfl⟩ rfl rfl (Nat.le_of_ble_eq_true rfl) (mJ7_fill_53178 l D cy kd_ ln44 rh45 _ a0 7 (-1) (gza (gza M a0 8) a0 9) (by rw [(gKp_k kn47 (gKp_k kn40 (gKp_k kp_ hk0 (by decide)) (by decide)) (by decide))]; rfl) (fun _ q => by rw [(gKp_k kn47 (gKp_k kn40 (gKp_k kp_ hk0 (by decide)) (by decide)) (by decide))]; exact q) h) dX3_init_100 (fun M51 h => ?_)
    exact hret kd_ ln44 rh45 M51 _ _ _ _ r43.1 r43.2 kp48 dX3_init_103 h
  unfold wX3_init at h
  refine q_aload_n C 0 rfl rfl dX3_init_0 ?_
  refine q_objInit (o := a0) C obX3_3 (Nat.le_of_ble_eq_true rfl) (Nat.le_of_ble_eq_true rfl) dX3_init_1 ?_
  refine q_aload_n C 0 rfl rfl dX3_init_4 ?_
  refine q_bipush C (by decide) dX3_init_5 ?_
  obtain ⟨r1, h⟩ := h
  obtain ⟨r2, h⟩ := h
  refine q_newput (t0 := 0) (ty := .int) C hin fX3_9 (fun _ _ _ q => by cases q; rfl) hk0 rfl rfl ac8 rfl (fun _ => rfl) (fun _ _ _ => rfl) (fun _ _ _ q => by cases q; rfl) r1 (show 0 ≤ (127 : Int) ∧ (127 : Int) ≤ 67108864 by decide) (by decide) r2.1 r2.2 dX3_init_7 dX3_init_9 (fun ln3 rh4 e5 kn6 => ?_)
  have h := h ln3 e5
  have kp7 := gKp_t gKp_r kn6
  refine q_aload_n C 0 rfl rfl dX3_init_12 ?_
  refine q_aload_n C 1 rfl rfl dX3_init_13 ?_
  obtain ⟨r8, h⟩ := h
  refine q_putF (x := a1) (v := .ref (gad a1)) (ty := .object RX0) C hin fX3_15 (fun _ _ _ q => by cases q; rfl) (gKp_k kn6 hk0 (by decide)) (fun _ _ _ q => by cases q; rfl) (gfo_put rfl r8) rfl rfl (Int.le_of_lt r8) (fun j q => absurd (show (1 : Nat) = j + 3 from q) (by omega)) dX3_init_14 ?_
  refine q_aload_n C 0 rfl rfl dX3_init_17 ?_
  refine q_aload_n C 2 rfl rfl dX3_init_18 ?_
  obtain ⟨r9, h⟩ := h
  refine q_putF (x := a2) (v := .ref (gad a2)) (ty := .object RX5) C hin fX3_19 (fun _ _ _ q => by cases q; rfl) (gKp_k kn6 hk0 (by decide)) (fun _ _ _ q => by cases q; rfl) (gfo_put rfl r9) rfl rfl (Int.le_of_lt r9) (fun j q => absurd (show (1 : Nat) = j + 3 from q) (by omega)) dX3_init_19 ?_
  refine q_aload_n C 0 rfl rfl dX3_init_22 ?_
  refine q_aload_n C 2 rfl rfl dX3_init_23 ?_
  refine q_get (v := gR ((gu (gu (gza M a0 7) a0 0 (-1) a1) a0 1 (-1) a2) a2 2 (-1))) C fX3_23 (gKp_k kn6 hk2 (by decide)) rfl dX3_init_24 (fun g10 => ?_)
  obtain ⟨r11, h⟩ := h
  refine q_nn r11 (by decide) ?_
  obtain ⟨r12, h⟩ := h
  refine q_putF (x := ((gu (gu (gza M a0 7) a0 0 (-1) a1) a0 1 (-1) a2) a2 2 (-1))) (v := .ref (gad ((gu (gu (gza M a0 7) a0 0 (-1) a1) a0 1 (-1) a2) a2 2 (-1)))) (ty := .object RX2) C hin fX3_29 (fun _ _ _ q => by cases q; rfl) (gKp_k kn6 hk0 (by decide)) (fun _ _ _ q => by cases q; rfl) (gfo_put rfl r12) rfl rfl (Int.le_of_lt r12) (fun j q => absurd (show (1 : Nat) = j + 3 from q) (by omega)) dX3_init_27 ?_
  refine q_aload_n C 0 rfl rfl dX3_init_30 ?_
  refine q_aload_n C 2 rfl rfl dX3_init_31 ?_
  obtain ⟨r13, h⟩ := h
  refine q_get (v := .ref (rh4 a2 1)) C fX3_30 (gKp_k kn6 hk2 (by decide)) (if_neg (Int.not_lt.mpr r13)) dX3_init_32 (fun g14 => ?_)
  refine q_putF (x := a2) (v := .ref (rh4 a2 1)) (ty := .array .byte) C hin fX3_34 (fun _ _ _ q => by cases q; rfl) (gKp_k kn6 hk0 (by decide)) (fun _ _ _ q => by cases q; rfl) (gfa_put (j := 1) rfl r9) rfl rfl (Int.le_of_lt r9) (fun j q _ => gfa_al (j0 := 1) q r13) dX3_init_35 ?_
  refine q_aload_n C 0 rfl rfl dX3_init_38 ?_
  refine q_aload_n C 2 rfl rfl dX3_init_39 ?_
  refine q_get (v := .int (gI ((gu (gu (gu (gu (gza M a0 7) a0 0 (-1) a1) a0 1 (-1) a2) a0 2 (-1) ((gu (gu (gza M a0 7) a0 0 (-1) a1) a0 1 (-1) a2) a2 2 (-1))) a0 3 (-1) a2) a2 0 (-1)))) C fX3_35 (gKp_k kn6 hk2 (by decide)) rfl dX3_init_40 (fun g15 => ?_)
  have h := h g15
  refine q_putF (x := ((gu (gu (gu (gu (gza M a0 7) a0 0 (-1) a1) a0 1 (-1) a2) a0 2 (-1) ((gu (gu (gza M a0 7) a0 0 (-1) a1) a0 1 (-1) a2) a2 2 (-1))) a0 3 (-1) a2) a2 0 (-1))) (ty := .int) C hin fX3_39 (fun _ _ _ q => by cases q; rfl) (gKp_k kn6 hk0 (by decide)) (fun _ _ _ q => by cases q; rfl) (congrArg (fun z => Value.int (gI z)) gu_s) rfl rfl g15 (fun j q => absurd (show (0 : Nat) = j + 3 from q) (by omega)) dX3_init_43 ?_
  refine q_aload_n C 0 rfl rfl dX3_init_46 ?_
  refine q_aload_n C 2 rfl rfl dX3_init_47 ?_
  refine q_callVI (As := []) (st := [.ref (gad a0)]) C vX3_40 kX5_size r2 ⟨Nat.le_of_ble_eq_true rfl, Nat.le_of_ble_eq_true rfl⟩ rfl (gKp_k kn6 hk2 (by decide)) ⟨_, _, rfl⟩ (by decide) rfl (Nat.le_of_ble_eq_true rfl) (mX5_size l D cy kd ln3 rh4 _ a2 (gu (gu (gu (gu (gu (gza M a0 7) a0 0 (-1) a1) a0 1 (-1) a2) a0 2 (-1) ((gu (gu (gza M a0 7) a0 0 (-1) a1) a0 1 (-1) a2) a2 2 (-1))) a0 3 (-1) a2) a0 4 (-1) ((gu (gu (gu (gu (gza M a0 7) a0 0 (-1) a1) a0 1 (-1) a2) a0 2 (-1) ((gu (gu (gza M a0 7) a0 0 (-1) a1) a0 1 (-1) a2) a2 2 (-1))) a0 3 (-1) a2) a2 0 (-1))) (gKp_k kn6 hk2 (by decide)) h) dX3_init_48 (fun c17 M16 g18 h => ?_)
  have h := h g18
  obtain ⟨r19, h⟩ := h
  obtain ⟨r20, h⟩ := h
  obtain ⟨r21, h⟩ := h
  refine q_newput (t0 := 0) (ty := .int) C hin fX3_44 (fun _ _ _ q => by cases q; rfl) (gKp_k kn6 hk0 (by decide)) rfl rfl ac8 rfl (fun _ => rfl) (fun _ _ _ => rfl) (fun _ _ _ q => by cases q; rfl) r19 r20 (by decide) r21.1 r21.2 dX3_init_51 dX3_init_53 (fun ln22 rh23 e24 kn25 => ?_)
  have h := h ln22 e24
  have kp26 := gKp_t kp7 kn25
  refine q_aload_n C 0 rfl rfl dX3_init_56 ?_
  refine q_get (v := .int (gI ((gza M16 a0 5) a0 4 (-1)))) C fX3_39 (gKp_k kn25 (gKp_k kn6 hk0 (by decide)) (by decide)) rfl dX3_init_57 (fun g27 => ?_)
  have h := h g27
  refine q_iconst C dX3_init_60 ?_
  refine q_icmp_ne (tgt := 79) C g27 (show rng 2 by decide) (by decide) dX3_init_61 (fun b28 => ?_) (fun b28 => ?_)
  · have h := h.1 b28
    refine q_iconst C dX3_init_79 ?_
    refine q_lv (lv' := [(0, .ref (gad a0))]) [0] rfl ?_
    exact t80  kd ln22 rh23 (0 + 1 + 1) (0 + Int.toNat 127 + Int.toNat c17) kp26 0 (gza M16 a0 5) h
  · have h := h.2 b28
    refine q_aload_n C 0 rfl rfl dX3_init_64 ?_
    refine q_get (v := gR ((gza M16 a0 5) a0 2 (-1))) C fX3_29 (gKp_k kn25 (gKp_k kn6 hk0 (by decide)) (by decide)) rfl dX3_init_65 (fun g29 => ?_)
    obtain ⟨r30, h⟩ := h
    refine q_nn r30 (by decide) ?_
    refine q_get (v := .int (gI ((gza M16 a0 5) ((gza M16 a0 5) a0 2 (-1)) 0 (-1)))) C fX3_47 r30 rfl dX3_init_68 (fun g31 => ?_)
    have h := h g31
    refine q_aload_n C 1 rfl rfl dX3_init_71 ?_
    refine q_get (v := .int (gI ((gza M16 a0 5) a1 0 (-1)))) C fX3_51 (gKp_k kn25 (gKp_k kn6 hk1 (by decide)) (by decide)) rfl dX3_init_72 (fun g32 => ?_)
    have h := h g32
    refine q_imul C dX3_init_75 ?_
    refine q_goto (tgt := 80) C (by decide) dX3_init_76 ?_
    refine q_lv (lv' := [(0, .ref (gad a0))]) [0] rfl ?_
    exact t80  kd ln22 rh23 (0 + 1 + 1) (0 + Int.toNat 127 + Int.toNat c17) kp26 (((gza M16 a0 5) ((gza M16 a0 5) a0 2 (-1)) 0 (-1)) * ((gza M16 a0 5) a1 0 (-1))) (gza M16 a0 5) h
set_option maxHeartbeats 4000000 in
set_option maxRecDepth 100000 in
theorem mX5_pairOf (l : Launch) (D : va_G) (cy : Nat → ClassId) (kd : gKd) (ln : gLn) (rh : gRh) (post : Int → gM → Prop) (a0 : Int) (M : gM)  (h : wX5_pairOf kd ln post a0 M) : gMI l D cy yX5_pairOf cX5_pairOf 1 .int 0 0 [.int (gI a0)] kd ln rh M post := by
  refine gMI_of (own := RX5) (by decide) rfl (Nat.le_of_ble_eq_true rfl) ?_
  intro p e s m args below meth c A H0 Q C hret
  unfold wX5_pairOf at h
  refine q_iload_n C 0 rfl rfl dX5_pairOf_0 ?_
  refine q_sipush C (by decide) dX5_pairOf_1 ?_
  obtain ⟨r1, h⟩ := h
  refine q_idiv C ⟨r1.1, r1.2, by decide, by decide⟩ dX5_pairOf_4 ?_
  obtain ⟨r2, h⟩ := h
  exact hret (a0 / 128) M _ _ dX5_pairOf_5 r2 h
set_option maxHeartbeats 4000000 in
set_option maxRecDepth 100000 in
theorem mX5_manOf (l : Launch) (D : va_G) (cy : Nat → ClassId) (kd : gKd) (ln : gLn) (rh : gRh) (post : Int → gM → Prop) (a0 : Int) (M : gM)  (h : wX5_manOf kd ln post a0 M) : gMI l D cy yX5_manOf cX5_manOf 1 .int 0 0 [.int (gI a0)] kd ln rh M post := by
  refine gMI_of (own := RX5) (by decide) rfl (Nat.le_of_ble_eq_true rfl) ?_
  intro p e s m args below meth c A H0 Q C hret
  unfold wX5_manOf at h
  refine q_iload_n C 0 rfl rfl dX5_manOf_0 ?_
  refine q_sipush C (by decide) dX5_manOf_1 ?_
  obtain ⟨r1, h⟩ := h
  refine q_irem C ⟨r1.1, r1.2, by decide, by decide⟩ dX5_manOf_4 ?_
  refine q_iconst C dX5_manOf_5 ?_
  obtain ⟨r2, h⟩ := h
  refine q_idiv C ⟨r2.1, r2.2, by decide, by decide⟩ dX5_manOf_6 ?_
  obtain ⟨r3, h⟩ := h
  exact hret ((a0 % 128) / 2) M _ _ dX5_manOf_7 r3 h
