section BK2
variable {kd : gKd} {ln : gLn} {M : gM} {o n a : Int}
/-- what a board holds of one square -/
def bdR (n a : Int) (B : Nat → Int → Int) : Prop := (B 2 a = a / n ∧ B 3 a = a % n) ∧ (∀ g, (0 ≤ g ∧ g < 8) → B 4 (g * (n * n) + a) = mIm n g a) ∧ sq n (L64 (B 6 a)) (mNx n a) ∧ (sq n (L64 (B 100 a)) (mAl n 0 a) ∧ sq n (L64 (B 101 a)) (mAl n 1 a) ∧ sq n (L64 (B 102 a)) (mPw n a)) ∧ ∀ y, mOn n y → sq n (L64 (B 8 (a * (n * n) + y))) (fun x => mAl n 0 a x ∧ mBt n a y x)
def bdZ (n a : Int) (B : Nat → Int → Int) : Prop := B 6 a = 0 ∧ B 100 a = 0 ∧ B 101 a = 0 ∧ B 102 a = 0 ∧ ∀ y, mOn n y → B 8 (a * (n * n) + y) = 0
theorem ix4 {a a' g g' : Int} (hN : mN n) (ha : mOn n a) (ha' : mOn n a') (h : g' * (n * n) + a' = g * (n * n) + a) : a' = a := by
  rcases mN_cases hN with rfl | rfl | rfl | rfl | rfl <;> omega
theorem ix4r {g : Int} (hN : mN n) (ha : mOn n a) (hg : 0 ≤ g ∧ g < 8) : 0 ≤ g * (n * n) + a ∧ g * (n * n) + a < 8 * (n * n) := by
  rcases mN_cases hN with rfl | rfl | rfl | rfl | rfl <;> omega
abbrev bdK : List Nat := [2, 3, 4, 6, 8, 100, 101, 102]
theorem sX0_enter {post : gM → Prop} (hN : mN n) (hl : bdL n (ln o)) (h0 : M o 0 (-1) = n ∧ M o 1 (-1) = n * n) (ha : mOn n a) (hz : bdZ n a (M o)) (h : ∀ M', Ch o bdK M M' → bdR n a (M' o) → (∀ a', mOn n a' → a' ≠ a → bdR n a' (M o) → bdR n a' (M' o)) → (∀ a', mOn n a' → a' ≠ a → bdZ n a' (M o) → bdZ n a' (M' o)) → post M') : wX0_enter kd ln post o a (a / n) (a % n) M := by
  have h4 : 4 ≤ n ∧ n ≤ 8 := hN
  have ea := mSq hN ha
  have hl2 := hl
  obtain ⟨l2, l3, l4, -⟩ := hl2
  obtain ⟨z6, z100, z101, z102, z8⟩ := hz
  obtain ⟨M1, e1⟩ : ∃ M1, M1 = gu (gu M o 2 a (a / n)) o 3 a (a % n) := ⟨_, rfl⟩
  have k1 : ∀ k, k ≠ 2 → k ≠ 3 → M1 o k = M o k := fun k h2 h3 => by rw [e1, gu_k h3, gu_k h2]
  have c1 : Ch o bdK M M1 := by rw [e1]; exact Ch.up (Ch.up Ch.rf (by decide) _ _) (by decide) _ _
  unfold wX0_enter
  rw [l2, l3, ← e1]
  refine ⟨by omega, ⟨ha.1, ha.2⟩, by omega, by omega, ⟨ha.1, ha.2⟩, by omega, ?_⟩
  refine sX0_lookAround hN hl ⟨by rw [k1 0 (by decide) (by decide)]; exact h0.1, by rw [k1 1 (by decide) (by decide)]; exact h0.2⟩ ha ⟨by rw [e1, gu_k (by decide), gu_s], by rw [e1, gu_s]⟩ ⟨by rw [k1 6 (by decide) (by decide)]; exact z6, by rw [k1 100 (by decide) (by decide)]; exact z100, by rw [k1 101 (by decide) (by decide)]; exact z101, by rw [k1 102 (by decide) (by decide)]; exact z102, fun y hy => by rw [k1 8 (by decide) (by decide)]; exact z8 y hy⟩ (fun M2 hI => ?_)
  obtain ⟨i1, i2, i3, i4, i5, i6, i7, i8⟩ := hI
  have all : ∀ x, bf n a 2 (-1) x := fun x => by
    have := mSg_c (x / n - a / n)
    unfold bf
    omega
  have loop : ∀ (j : Nat) (g : Int) (M' : gM), 0 ≤ g → g ≤ 8 → Ch o [4] M2 M' → (∀ g', (0 ≤ g' ∧ g' < g) → M' o 4 (g' * (n * n) + a) = mIm n g' a) → (∀ i, (∀ g', i ≠ g' * (n * n) + a) → M' o 4 i = M2 o 4 i) → 8 - g < j → wX0_enter_22 kd ln post o a (a / n) (a % n) j g M' := by
    intro j
    induction j with
    | zero => intro g M' h1 h2 h3 h4 h5 h6; omega
    | succ j ih =>
      intro g M' h1 h2 h3 h4 h5 h6
      have a0 : M' o 0 (-1) = n := by rw [h3.at (by decide), i1.at (by decide), k1 0 (by decide) (by decide)]; exact h0.1
      have a1 : M' o 1 (-1) = n * n := by rw [h3.at (by decide), i1.at (by decide), k1 1 (by decide) (by decide)]; exact h0.2
      unfold wX0_enter_22
      rw [l4, a1]
      refine ⟨by omega, fun q => ?_, fun q => ⟨by omega, fun _ => sX0_imageOf hN a0 (by omega) ha fun _ => ⟨ix4r hN ha (by omega), ih (g + 1) _ (by omega) (by omega) (Ch.up h3 (by decide) _ _) (fun g' q1 => ?_) (fun i q1 => ?_) (by omega)⟩⟩⟩
      · have hg : g = 8 := by omega
        subst hg
        have cc : Ch o bdK M M' := (c1.tr (i1.mo (by decide))).tr (h3.mo (by decide))
        have e2 : M' o 2 = M1 o 2 := by rw [h3.at (by decide), i1.at (by decide)]
        have e3 : M' o 3 = M1 o 3 := by rw [h3.at (by decide), i1.at (by decide)]
        have r6 : M' o 6 = M2 o 6 := h3.at (by decide)
        have r8 : M' o 8 = M2 o 8 := h3.at (by decide)
        have r100 : M' o 100 = M2 o 100 := h3.at (by decide)
        have r101 : M' o 101 = M2 o 101 := h3.at (by decide)
        have r102 : M' o 102 = M2 o 102 := h3.at (by decide)
        have oldk : ∀ k, k ≠ 8 → k ≠ 4 → ∀ i, i ≠ a → M' o k i = M o k i := fun k q8 q4 i hi => by
          rw [h3.at (by simpa using q4), i2 k q8 i hi, e1, gu_n (fun e => hi e.2.2), gu_n (fun e => hi e.2.2)]
        have old8 : ∀ a', mOn n a' → a' ≠ a → ∀ y, mOn n y → M' o 8 (a' * (n * n) + y) = M o 8 (a' * (n * n) + y) := fun a' ha' hne y hy => by
          rw [r8, i3 (a' * (n * n) + y) (fun y' hy' e => hne (pc_inj hN ha' hy ha hy' e).1), k1 8 (by decide) (by decide)]
        refine h M' cc ⟨⟨by rw [e2, e1, gu_k (by decide), gu_s], by rw [e3, e1, gu_s]⟩, fun g' hg' => h4 g' hg', ?_, ⟨?_, ?_, ?_⟩, fun y hy => ?_⟩ (fun a' ha' hne q1 => ?_) (fun a' ha' hne q1 => ?_)
        · rw [r6]; exact sq_cong i4 (fun x _ => ⟨fun q => q.1, fun q => ⟨q, all x⟩⟩)
        · rw [r100]; exact sq_cong i5 (fun x _ => ⟨fun q => q.1, fun q => ⟨q, all x⟩⟩)
        · rw [r101]; exact sq_cong i6 (fun x _ => ⟨fun q => q.1, fun q => ⟨q, all x⟩⟩)
        · rw [r102]; exact sq_cong i7 (fun x _ => ⟨fun q => q.1, fun q => ⟨q, all x⟩⟩)
        · rw [r8]; exact sq_cong (i8 y hy) (fun x _ => ⟨fun q => q.1, fun q => ⟨q, all y⟩⟩)
        · obtain ⟨q2, q3, q4, ⟨q5, q6, q7⟩, q8⟩ := q1
          refine ⟨by rw [oldk 2 (by decide) (by decide) a' hne, oldk 3 (by decide) (by decide) a' hne]; exact q2, fun g' hg' => ?_, by rw [oldk 6 (by decide) (by decide) a' hne]; exact q4, ⟨by rw [oldk 100 (by decide) (by decide) a' hne]; exact q5, by rw [oldk 101 (by decide) (by decide) a' hne]; exact q6, by rw [oldk 102 (by decide) (by decide) a' hne]; exact q7⟩, fun y hy => by rw [old8 a' ha' hne y hy]; exact q8 y hy⟩
          rw [h5 _ (fun g'' e => hne (ix4 hN ha ha' e)), i1.at (by decide), k1 4 (by decide) (by decide)]
          exact q3 g' hg'
        · obtain ⟨q2, q3, q4, q5, q6⟩ := q1
          exact ⟨by rw [oldk 6 (by decide) (by decide) a' hne]; exact q2, by rw [oldk 100 (by decide) (by decide) a' hne]; exact q3, by rw [oldk 101 (by decide) (by decide) a' hne]; exact q4, by rw [oldk 102 (by decide) (by decide) a' hne]; exact q5, fun y hy => by rw [old8 a' ha' hne y hy]; exact q6 y hy⟩
      · rw [gu_v]
        by_cases e : g' * (n * n) + a = g * (n * n) + a
        · have : g' = g := by rcases mN_cases hN with rfl | rfl | rfl | rfl | rfl <;> omega
          rw [if_pos e, this]
        · have : g' ≠ g := fun e2 => e (by rw [e2])
          rw [if_neg e]
          exact h4 g' (by omega)
      · rw [gu_i (q1 g)]
        exact h5 i q1
  exact ⟨9, loop 9 0 M2 (by omega) (by omega) Ch.rf (fun g' q => by omega) (fun _ _ => rfl) (by omega)⟩
theorem sX0_init {post : gKd → gLn → gM → Prop} {mc ms : Nat} (hN : mN n) (hq : ∀ k, ln o k < 0) (hz : ∀ k i, M o k i = 0) (hmc : 10 ≤ mc) (hms : 5000 ≤ ms) (h : ∀ ln' M', (∀ x, x ≠ o → ln' x = ln x) → bdL n (ln' o) → (∀ x, x ≠ o → M' x = M x) → bdG n (M' o) → ((∀ i, M' o 5 i = 0) ∧ M' o 9 (-1) = 0 ∧ M' o 10 (-1) = 0) → post kd ln' M') : wX0_init mc ms kd ln post o n M := by
  have h4 : 4 ≤ n ∧ n ≤ 8 := hN
  have hS := mSS hN
  have hSS : n * n * (n * n) ≤ 4096 ∧ 0 ≤ n * n * (n * n) := by rcases mN_cases hN with rfl | rfl | rfl | rfl | rfl <;> omega
  unfold wX0_init
  simp only [gza_rd, gu_rd, Nat.reduceEqDiff, false_and, and_false, if_false, true_and, and_self, if_true]
  refine ⟨hq 5, by omega, ?_⟩
  intro ln1 e1
  refine ⟨by omega, by omega, fun _ => ⟨by rw [e1, gla_rd, if_neg (by simp)]; exact hq 2, by omega, by omega, ?_⟩⟩
  intro ln2 e2
  refine fun _ => ⟨by rw [e2, gla_rd, if_neg (by simp), e1, gla_rd, if_neg (by simp)]; exact hq 3, by omega, by omega, ?_⟩
  intro ln3 e3
  refine fun _ => ⟨by rw [e3, gla_rd, if_neg (by simp), e2, gla_rd, if_neg (by simp), e1, gla_rd, if_neg (by simp)]; exact hq 6, by omega, by omega, ?_⟩
  intro ln4 e4
  have s4 : ∀ k, k ≠ 5 → k ≠ 2 → k ≠ 3 → k ≠ 6 → ln4 o k < 0 := fun k k5 k2 k3 k6 => by
    rw [e4, gla_rd, if_neg (fun e => k6 e.2), e3, gla_rd, if_neg (fun e => k3 e.2), e2, gla_rd, if_neg (fun e => k2 e.2), e1, gla_rd, if_neg (fun e => k5 e.2)]; exact hq k
  refine fun _ => ⟨⟨s4 7 (by decide) (by decide) (by decide) (by decide), s4 100 (by decide) (by decide) (by decide) (by decide), s4 101 (by decide) (by decide) (by decide) (by decide), s4 102 (by decide) (by decide) (by decide) (by decide)⟩, by omega, by omega, ?_⟩
  intro ln5 e5
  have s5 : ∀ k, k ≠ 7 → k ≠ 100 → k ≠ 101 → k ≠ 102 → ln5 o k = ln4 o k := fun k k7 k0 k1 k2 => by
    rw [e5, gla_rd, if_neg (fun e => k7 e.2), gla_rd, if_neg (fun e => k2 e.2), gla_rd, if_neg (fun e => k1 e.2), gla_rd, if_neg (fun e => k0 e.2)]
  refine fun _ => ⟨by rw [s5 8 (by decide) (by decide) (by decide) (by decide)]; exact s4 8 (by decide) (by decide) (by decide) (by decide), by omega, by omega, ?_⟩
  intro ln6 e6
  refine fun _ => ⟨by rw [e6, gla_rd, if_neg (by simp), s5 4 (by decide) (by decide) (by decide) (by decide)]; exact s4 4 (by decide) (by decide) (by decide) (by decide), by omega, by omega, ?_⟩
  intro ln7 e7
  have L : bdL n (ln7 o) := by
    unfold bdL
    rw [e7, e6, e5, e4, e3, e2, e1]
    simp only [gla_rd, Nat.reduceEqDiff, and_false, and_self, if_false, if_true]
  have lo : ∀ x, x ≠ o → ln7 x = ln x := fun x hx => by
    rw [e7, gla_o hx, e6, gla_o hx, e5, gla_o hx, gla_o hx, gla_o hx, gla_o hx, e4, gla_o hx, e3, gla_o hx, e2, gla_o hx, e1, gla_o hx]
  obtain ⟨M1, eM⟩ : ∃ M1, M1 = gza (gza (gza (gza (gza (gza (gza (gza (gza (gu (gu (gza M o 5) o 0 (-1) n) o 1 (-1) (n * n)) o 2) o 3) o 6) o 100) o 101) o 102) o 7) o 8) o 4 := ⟨_, rfl⟩
  rw [← eM]
  have oth : ∀ x, x ≠ o → M1 x = M x := fun x hx => by
    rw [eM, gza_o hx, gza_o hx, gza_o hx, gza_o hx, gza_o hx, gza_o hx, gza_o hx, gza_o hx, gza_o hx, gu_o hx, gu_o hx, gza_o hx]
  have m01 : M1 o 0 (-1) = n ∧ M1 o 1 (-1) = n * n := by
    rw [eM]
    simp only [gza_rd, gu_rd, Nat.reduceEqDiff, false_and, and_false, if_false, true_and, and_self, if_true]
  have mz : ∀ k i, k ≠ 0 → k ≠ 1 → M1 o k i = 0 := fun k i k0 k1 => by
    rw [eM]
    simp only [gza_rd, gu_rd, k0, k1, false_and, and_false, if_false, true_and, hz]
    repeat (first | split | rfl)
  have cc : (0 : Nat) + 1 + 1 + 1 + 1 + 4 + 1 + 1 ≤ mc := by omega
  have start : ∀ (ce sl : Nat), ce ≤ mc ∧ sl ≤ ms → ∃ j97, wX0_init_97 mc ms post o n j97 kd ln7 ce sl 0 M1 := fun ce sl hcc => by
    have row : ∀ (k97 : gKd → gLn → Nat → Nat → Int → gM → Prop) (r : Int), 0 ≤ r → r < n → (∀ M', Ch o bdK M1 M' → (∀ a, mOn n a → a / n ≤ r → bdR n a (M' o)) → (∀ a, mOn n a → r < a / n → bdZ n a (M' o)) → k97 kd ln7 ce sl (r + 1) M') → ∀ (j : Nat) (f : Int) (M' : gM), 0 ≤ f → f ≤ n → Ch o bdK M1 M' → (∀ a, mOn n a → (a / n < r ∨ (a / n = r ∧ a % n < f)) → bdR n a (M' o)) → (∀ a, mOn n a → (r < a / n ∨ (a / n = r ∧ f ≤ a % n)) → bdZ n a (M' o)) → n - f < j → wX0_init_104 mc ms post o n k97 j kd ln7 ce sl r f M' := by
      intro k97 r r0 r1 hk j
      induction j with
      | zero => intro f M' h1 h2 h3 h4 h5 h6; omega
      | succ j ih =>
        intro f M' h1 h2 h3 h4 h5 h6
        have a0 : M' o 0 (-1) = n ∧ M' o 1 (-1) = n * n := by rw [h3.at (by decide), h3.at (by decide)]; exact m01
        unfold wX0_init_104
        refine ⟨hcc, by omega, by omega, fun q => hk M' h3 (fun a ha q1 => h4 a ha ?_) (fun a ha q1 => h5 a ha (Or.inl q1)), fun q => ?_⟩
        · have := mSq hN ha; omega
        · obtain ⟨s1, s2, s3⟩ := mSq_of hN (f := f) (r := r) (by omega) (by omega)
          refine sX0_squareAt hN a0.1 (by omega) (by omega) (fun _ _ _ => ?_) (fun q1 => absurd ⟨⟨r0, r1⟩, ⟨h1, by omega⟩⟩ q1)
          have en := sX0_enter (kd := kd) (ln := ln7) (post := fun M76 => wX0_init_104 mc ms post o n k97 j kd ln7 ce sl r (f + 1) M76) hN L a0 s1 (h5 _ s1 (Or.inr ⟨s3, by omega⟩)) (fun M'' d1 d2 d3 d4 => ih (f + 1) M'' (by omega) (by omega) (h3.tr d1) (fun a ha q1 => ?_) (fun a ha q1 => ?_) (by omega))
          · rw [s2, s3] at en
            exact en
          · by_cases e : a = n * r + f
            · rw [e]; exact d2
            · refine d3 a ha e (h4 a ha ?_)
              have : ¬ (a % n = f ∧ a / n = r) := fun q2 => e (mSq_eq hN ha s1 (by omega) (by omega))
              omega
          · have e : a ≠ n * r + f := fun e => by
              subst e
              omega
            exact d4 a ha e (h5 a ha (by omega))
    have rows : ∀ (j : Nat) (r : Int) (M' : gM), 0 ≤ r → r ≤ n → Ch o bdK M1 M' → (∀ a, mOn n a → a / n < r → bdR n a (M' o)) → (∀ a, mOn n a → r ≤ a / n → bdZ n a (M' o)) → n - r < j → wX0_init_97 mc ms post o n j kd ln7 ce sl r M' := by
      intro j
      induction j with
      | zero => intro r M' h1 h2 h3 h4 h5 h6; omega
      | succ j ih =>
        intro r M' h1 h2 h3 h4 h5 h6
        unfold wX0_init_97
        refine ⟨hcc, by omega, by omega, fun q => ?_, fun q => ⟨n.toNat + 1, row _ r h1 (by omega) (fun M'' d1 d2 d3 => ih (r + 1) M'' (by omega) (by omega) d1 (fun a ha q1 => d2 a ha (by omega)) (fun a ha q1 => d3 a ha (by omega)) (by omega)) _ 0 M' (by omega) (by omega) h3 (fun a ha q1 => h4 a ha (by have := mSq hN ha; omega)) (fun a ha q1 => h5 a ha (by omega)) (by omega)⟩⟩
        have all : ∀ a, mOn n a → bdR n a (M' o) := fun a ha => h4 a ha (by have := mSq hN ha; omega)
        refine h ln7 M' lo L (fun x hx => (h3.ot hx).trans (oth x hx)) ⟨by rw [h3.at (by decide), h3.at (by decide)]; exact m01, fun a ha => (all a ha).1, fun g a hg ha => (all a ha).2.1 g hg, fun a ha => (all a ha).2.2.1, fun m a hm ha => ?_, fun a y ha hy => (all a ha).2.2.2.2 y hy⟩ ⟨fun i => ?_, ?_, ?_⟩
        · obtain ⟨b1, b2, b3⟩ := (all a ha).2.2.2.1
          rcases (show m = 0 ∨ m = 1 ∨ m = 2 by omega) with e | e | e
          · subst e; exact sq_cong b1 (fun x _ => ⟨fun q => Or.inr ⟨by decide, q⟩, fun q => q.elim (fun q => absurd q.1 (by decide)) (fun q => q.2)⟩)
          · subst e; exact sq_cong b2 (fun x _ => ⟨fun q => Or.inr ⟨by decide, q⟩, fun q => q.elim (fun q => absurd q.1 (by decide)) (fun q => q.2)⟩)
          · subst e; exact sq_cong b3 (fun x _ => ⟨fun q => Or.inl ⟨rfl, q⟩, fun q => q.elim (fun q => q.2) (fun q => absurd rfl q.1)⟩)
        · rw [h3.at (by decide)]; exact mz 5 i (by decide) (by decide)
        · rw [h3.at (by decide)]; exact mz 9 _ (by decide) (by decide)
        · rw [h3.at (by decide)]; exact mz 10 _ (by decide) (by decide)
    refine ⟨n.toNat + 1, rows _ 0 M1 (by omega) (by omega) Ch.rf (fun a ha q => ?_) (fun a ha _ => ⟨mz 6 a (by decide) (by decide), mz 100 a (by decide) (by decide), mz 101 a (by decide) (by decide), mz 102 a (by decide) (by decide), fun y hy => mz 8 _ (by decide) (by decide)⟩) (by omega)⟩
    have := mSq hN ha
    omega
  exact start _ _ ⟨by omega, by omega⟩
end BK2
