/-- the reference holds the moves p, in order -/
def mHd (r : Int) (V : Int → Nat → Int) (M : gM) (cnt : Nat) (p : Int → Prop) : Prop := M r 12 (-1) = cnt ∧ ∃ f : Nat → Int, sIn cnt f p ∧ ∀ i : Nat, i < cnt → mRw r M i (V (f i))
theorem mHd_iff {r : Int} {V : Int → Nat → Int} {M : gM} {cnt : Nat} {p q : Int → Prop} (h : mHd r V M cnt p) (e : ∀ c, p c ↔ q c) : mHd r V M cnt q := by
  obtain ⟨h1, f, h2, h3⟩ := h
  exact ⟨h1, f, sIn_iff h2 e, h3⟩
section AE
variable {kd : gKd} {ln : gLn} {M : gM} {r n : Int}
theorem sX7_add {post : gM → Prop} {V : Int → Nat → Int} {c : Int} {cnt : Nat} {p : Int → Prop} (hl : mLn7 ln r) (hV0 : ∀ c, V c 0 = cF c) (hV1 : ∀ c, V c 1 = cT c) (hv : ∀ s, s < 7 → rng (V c s)) (hd : mHd r V M cnt p) (hcnt : cnt < 48) (hnew : ∀ y, p y → cF y = cF c → cT y = cT c → y < c) (h : ∀ M', mHd r V M' (cnt + 1) (fun x => p x ∨ x = c) → Ch r mSl M M' → post M') : wX7_add kd ln post r (V c 0) (V c 1) (V c 2) (V c 3) (V c 4) (V c 5) (V c 6) M := by
  obtain ⟨hm, f, hs, hr⟩ := hd
  have hl2 := hl
  obtain ⟨l0, l1, l2, l3, l4, l5, l6⟩ := hl2
  have fin : ∀ (q : Nat) (M' : gM), q ≤ cnt → M' r 12 (-1) = cnt → (∀ i : Nat, i < q → mRw r M' i (V (f i))) → (∀ i : Nat, q < i → i ≤ cnt → mRw r M' i (V (f (i - 1)))) → (∀ i, q ≤ i → i < cnt → c < f i) → (∀ i, i < q → f i < c) → Ch r mSl M M' → wX7_add_168 kd ln post r (V c 0) (V c 1) (V c 2) (V c 3) (V c 4) (V c 5) (V c 6) q M' := by
    intro q M' hq hm' h1 h2 h3 h4 hC
    refine sX7_add_168 (v := V c) hl hv (by omega) (by rw [hm']; omega) fun M'' e1 e2 e3 => h M'' ⟨by rw [e2, hm']; omega, _, sIn_ins hs hq h4 h3, fun i hi s hs7 => ?_⟩ (hC.tr e3)
    rw [e1 s i hs7]
    rcases Nat.lt_trichotomy i q with g | g | g
    · rw [if_neg (by omega), if_pos g]
      exact h1 i g s hs7
    · subst g
      rw [if_pos rfl, if_neg (Nat.lt_irrefl i), if_pos rfl]
    · rw [if_neg (by omega), if_neg (by omega), if_neg (by omega)]
      exact h2 i g (by omega) s hs7
  have loop : ∀ (j q : Nat) (M' : gM), q ≤ cnt → M' r 12 (-1) = cnt → (∀ i : Nat, i < q → mRw r M' i (V (f i))) → (∀ i : Nat, q < i → i ≤ cnt → mRw r M' i (V (f (i - 1)))) → (∀ i, q ≤ i → i < cnt → c < f i) → Ch r mSl M M' → q < j → wX7_add_6 kd ln post r (V c 0) (V c 1) (V c 2) (V c 3) (V c 4) (V c 5) (V c 6) j q M' := by
    intro j
    induction j with
    | zero => intro q M' hq _ _ _ _ _ hj; omega
    | succ j ih =>
      intro q M' hq hm' h1 h2 h3 hC hj
      unfold wX7_add_6
      refine ⟨by omega, fun g => ?_, fun g => ?_⟩
      · exact fin q M' hq hm' h1 h2 h3 (fun i hi => by omega) hC
      · obtain ⟨q', rfl⟩ : ∃ q', q = q' + 1 := ⟨q - 1, by omega⟩
        have e0 : ((q' + 1 : Nat) : Int) - 1 = (q' : Int) := by omega
        have r0 : M' r 13 (q' : Int) = cF (f q') := (h1 q' (by omega) 0 (by omega)).trans (hV0 _)
        have r1 : M' r 14 (q' : Int) = cT (f q') := (h1 q' (by omega) 1 (by omega)).trans (hV1 _)
        have pf : p (f q') := (hs.2 _).mpr ⟨q', by omega, rfl⟩
        have lo : f q' < c → ∀ i, i < q' + 1 → f i < c := fun g2 i hi => by
          rcases Nat.lt_or_eq_of_le (Nat.lt_succ_iff.mp hi) with g3 | g3
          · exact Int.lt_trans (hs.1 i q' g3 (by omega)) g2
          · rw [g3]; exact g2
        have shift : c < f q' → wX7_add_50 kd ln post r (V c 0) (V c 1) (V c 2) (V c 3) (V c 4) (V c 5) (V c 6) (wX7_add_6 kd ln post r (V c 0) (V c 1) (V c 2) (V c 3) (V c 4) (V c 5) (V c 6) j) ((q' + 1 : Nat) : Int) M' := fun g2 => by
          refine sX7_add_50 hl (by omega) fun M'' e1 e2 e3 => ?_
          rw [show ((q' + 1 : Nat) : Int) + (-1) = (q' : Int) by omega]
          refine ih q' M'' (by omega) (by rw [e2]; exact hm') (fun i hi s hs7 => ?_) (fun i hi hi2 s hs7 => ?_) (fun i hi hi2 => ?_) (hC.tr e3) (by omega)
          · rw [e1 s i hs7, if_neg (by omega)]
            exact h1 i (by omega) s hs7
          · rw [e1 s i hs7]
            rcases Nat.lt_or_eq_of_le (Nat.succ_le_of_lt hi) with g3 | g3
            · rw [if_neg (by omega)]
              exact h2 i (by omega) hi2 s hs7
            · subst g3
              rw [if_pos (by omega), e0]
              exact h1 q' (by omega) s hs7
          · rcases Nat.lt_or_eq_of_le hi with g3 | g3
            · exact h3 i (by omega) hi2
            · rw [← g3]; exact g2
        have ord := hnew (f q') pf
        have hv0 := hv 0 (by omega)
        have hv1 := hv 1 (by omega)
        rw [l0, l1, e0, r0, r1]
        have u0 := hV0 c
        have u1 := hV1 c
        have ordl : (cF (f q') < cF c ∨ (cF (f q') = cF c ∧ cT (f q') < cT c)) → f q' < c := by
          unfold cF cT
          omega
        have ordh : (cF c < cF (f q') ∨ (cF (f q') = cF c ∧ cT c < cT (f q'))) → c < f q' := by
          unfold cF cT
          omega
        refine ⟨by omega, by omega, fun _ => ⟨hv0, fun g1 => shift (ordh (by omega)), fun g1 => ⟨fun g2 => ?_, fun g2 => ⟨by omega, by omega, fun _ => ⟨hv1, fun g3 => ?_, fun g3 => shift (ordh (by omega))⟩⟩⟩⟩⟩
        · exact fin (q' + 1) M' hq hm' h1 h2 h3 (lo (ordl (by omega))) hC
        · refine fin (q' + 1) M' hq hm' h1 h2 h3 (lo ?_) hC
          rcases Int.lt_or_eq_of_le g3 with g4 | g4
          · exact ordl (by omega)
          · exact ord (by omega) (by omega)
  unfold wX7_add
  intro _ v2 e2
  rw [e2, hm]
  exact ⟨cnt + 1, loop (cnt + 1) cnt M (Nat.le_refl _) hm hr (fun i h1 h2 => by omega) (fun i h1 h2 => by omega) Ch.rf (Nat.lt_succ_self _)⟩
end AE
