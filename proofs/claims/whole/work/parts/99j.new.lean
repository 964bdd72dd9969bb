/-! NEW OBJECTS -/
section NW
variable {kd kd' : gKd} {ln ln' : gLn} {M M' : gM} {h o r n m : Int}
theorem gza_00 {j k : Nat} {i : Int} (h0 : M r k i = 0) : gza M r j r k i = 0 := by
  rw [gza_rd]
  split
  · rfl
  · exact h0
theorem sX7_init {post : gKd → gLn → gM → Prop} {mc ms : Nat} (hq : ∀ k, ln r k < 0) (hz : ∀ k i, M r k i = 0) (hmc : 19 ≤ mc) (hms : 1672402 ≤ ms) (hp : ∀ ln' M', (∀ x, x ≠ r → ln' x = ln x) → rLn ln' r → (∀ x, x ≠ r → M' x = M x) → rN 8 r M' → M' r 26 (-1) = -1 → (∀ k i, k ≠ 1 → k ≠ 2 → k ≠ 26 → M' r k i = 0) → post kd ln' M') : wX7_init mc ms kd ln post r M := by
  unfold wX7_init
  refine ⟨hq 3, by omega, ?_⟩
  intro l1 e1
  refine ⟨by rw [e1, gla_rd, if_neg (by simp)]; exact hq 4, by omega, ?_⟩
  have q1 : ∀ k, k ≠ 3 → l1 r k < 0 := fun k h1 => by rw [e1, gla_rd, if_neg (fun e => h1 e.2)]; exact hq k
  intro l2 e2
  have q2 : ∀ k, k ≠ 3 → k ≠ 4 → l2 r k < 0 := fun k h1 h2 => by rw [e2, gla_rd, if_neg (fun e => h2 e.2)]; exact q1 k h1
  refine ⟨q2 5 (by decide) (by decide), by omega, ?_⟩
  intro l3 e3
  have q3 : ∀ k, k ≠ 3 → k ≠ 4 → k ≠ 5 → l3 r k < 0 := fun k h1 h2 h3 => by rw [e3, gla_rd, if_neg (fun e => h3 e.2)]; exact q2 k h1 h2
  refine ⟨q3 6 (by decide) (by decide) (by decide), by omega, ?_⟩
  intro l4 e4
  have q4 : ∀ k, 7 ≤ k → l4 r k < 0 := fun k h1 => by rw [e4, gla_rd, if_neg (fun e => by omega)]; exact q3 k (by omega) (by omega) (by omega)
  refine ⟨q4 7 (by omega), by omega, ?_⟩
  intro l5 e5
  have q5 : ∀ k, 8 ≤ k → l5 r k < 0 := fun k h1 => by rw [e5, gla_rd, if_neg (fun e => by omega)]; exact q4 k (by omega)
  refine ⟨q5 8 (by omega), by omega, ?_⟩
  intro l6 e6
  have q6 : ∀ k, 9 ≤ k → l6 r k < 0 := fun k h1 => by rw [e6, gla_rd, if_neg (fun e => by omega)]; exact q5 k (by omega)
  refine ⟨q6 10 (by omega), by omega, ?_⟩
  intro l7 e7
  have q7 : ∀ k, 11 ≤ k → l7 r k < 0 := fun k h1 => by rw [e7, gla_rd, if_neg (fun e => by omega)]; exact q6 k (by omega)
  refine ⟨q7 13 (by omega), by omega, ?_⟩
  intro l8 e8
  have q8 : ∀ k, 14 ≤ k → l8 r k < 0 := fun k h1 => by rw [e8, gla_rd, if_neg (fun e => by omega)]; exact q7 k (by omega)
  refine ⟨q8 14 (by omega), by omega, ?_⟩
  intro l9 e9
  have q9 : ∀ k, 15 ≤ k → l9 r k < 0 := fun k h1 => by rw [e9, gla_rd, if_neg (fun e => by omega)]; exact q8 k (by omega)
  refine ⟨q9 15 (by omega), by omega, ?_⟩
  intro l10 e10
  have q10 : ∀ k, 16 ≤ k → l10 r k < 0 := fun k h1 => by rw [e10, gla_rd, if_neg (fun e => by omega)]; exact q9 k (by omega)
  refine ⟨q10 16 (by omega), by omega, ?_⟩
  intro l11 e11
  have q11 : ∀ k, 17 ≤ k → l11 r k < 0 := fun k h1 => by rw [e11, gla_rd, if_neg (fun e => by omega)]; exact q10 k (by omega)
  refine ⟨q11 17 (by omega), by omega, ?_⟩
  intro l12 e12
  have q12 : ∀ k, 18 ≤ k → l12 r k < 0 := fun k h1 => by rw [e12, gla_rd, if_neg (fun e => by omega)]; exact q11 k (by omega)
  refine ⟨q12 18 (by omega), by omega, ?_⟩
  intro l13 e13
  have q13 : ∀ k, 19 ≤ k → l13 r k < 0 := fun k h1 => by rw [e13, gla_rd, if_neg (fun e => by omega)]; exact q12 k (by omega)
  refine ⟨q13 19 (by omega), by omega, ?_⟩
  intro l14 e14
  have q14 : ∀ k, 20 ≤ k → l14 r k < 0 := fun k h1 => by rw [e14, gla_rd, if_neg (fun e => by omega)]; exact q13 k (by omega)
  refine ⟨q14 22 (by omega), by omega, ?_⟩
  intro l15 e15
  have q15 : ∀ k, 23 ≤ k → l15 r k < 0 := fun k h1 => by rw [e15, gla_rd, if_neg (fun e => by omega)]; exact q14 k (by omega)
  refine ⟨q15 23 (by omega), by omega, ?_⟩
  intro l16 e16
  have q16 : ∀ k, 24 ≤ k → l16 r k < 0 := fun k h1 => by rw [e16, gla_rd, if_neg (fun e => by omega)]; exact q15 k (by omega)
  refine ⟨q16 24 (by omega), by omega, ?_⟩
  intro l17 e17
  have q17 : ∀ k, 25 ≤ k → l17 r k < 0 := fun k h1 => by rw [e17, gla_rd, if_neg (fun e => by omega)]; exact q16 k (by omega)
  refine ⟨q17 25 (by omega), by omega, ?_⟩
  intro l18 e18
  have q18 : ∀ k, 26 ≤ k → l18 r k < 0 := fun k h1 => by rw [e18, gla_rd, if_neg (fun e => by omega)]; exact q17 k (by omega)
  refine ⟨q18 27 (by omega), by omega, ?_⟩
  intro l19 e19
  refine hp l19 _ (fun x hx => ?_) ?_ (fun x hx => ?_) ⟨?_, ?_⟩ ?_ (fun k i k1 k2 k3 => ?_)
  · rw [e19, gla_o hx, e18, gla_o hx, e17, gla_o hx, e16, gla_o hx, e15, gla_o hx, e14, gla_o hx, e13, gla_o hx, e12, gla_o hx, e11, gla_o hx, e10, gla_o hx, e9, gla_o hx, e8, gla_o hx, e7, gla_o hx, e6, gla_o hx, e5, gla_o hx, e4, gla_o hx, e3, gla_o hx, e2, gla_o hx, e1, gla_o hx]
  · unfold rLn mLn7
    rw [e19, e18, e17, e16, e15, e14, e13, e12, e11, e10, e9, e8, e7, e6, e5, e4, e3, e2, e1]
    simp only [gla_rd, Nat.reduceEqDiff, and_false, and_self, if_false, if_true]
  · rw [gza_o hx, gu_o hx, gza_o hx, gza_o hx, gza_o hx, gza_o hx, gza_o hx, gza_o hx, gza_o hx, gza_o hx, gza_o hx, gza_o hx, gza_o hx, gza_o hx, gza_o hx, gza_o hx, gza_o hx, gza_o hx, gza_o hx, gza_o hx, gu_o hx, gu_o hx]
  · simp only [gza_rd, gu_rd, Nat.reduceEqDiff, false_and, and_false, if_false, true_and, and_self, if_true]
  · simp only [gza_rd, gu_rd, Nat.reduceEqDiff, false_and, and_false, if_false, true_and, and_self, if_true]
    rfl
  · simp only [gza_rd, gu_rd, Nat.reduceEqDiff, false_and, and_false, if_false, true_and, and_self, if_true]
  · refine gza_00 ?_
    rw [gu_k k3]
    refine gza_00 (gza_00 (gza_00 (gza_00 (gza_00 (gza_00 (gza_00 (gza_00 (gza_00 (gza_00 (gza_00 (gza_00 (gza_00 (gza_00 (gza_00 (gza_00 (gza_00 (gza_00 ?_)))))))))))))))))
    rw [gu_k k2, gu_k k1]
    exact hz k i
/-- what may yet be spent on a board -/
noncomputable def pos (n : Int) (M : gM) (o : Int) : Nat := pk (M o 9 (-1)) 20488 + pk (M o 10 (-1)) 20488 + pk (M o 5 0) (cst n 0) + pk (M o 5 1) (cst n 1) + pk (M o 5 2) (cst n 2)
noncomputable def pot (n : Int) (M : gM) (o : Int) : Nat := if M o 5 0 ≠ 0 ∧ M o 5 1 ≠ 0 ∧ M o 5 2 ≠ 0 then 0 else pos n M o
noncomputable def pt (M : gM) (h n : Int) : Nat := if M h 0 n = 0 then 5011 + (20488 + 20488 + cst n 0 + cst n 1 + cst n 2) else pot n M (M h 0 n)
noncomputable def PT (M : gM) (h : Int) : Nat := pt M h 4 + pt M h 5 + pt M h 6 + pt M h 7 + pt M h 8
theorem pq_le {v v' : Int} {c : Nat} (h : v' = v ∨ v' ≠ 0) : pk v' c ≤ pk v c := by
  rcases h with h | h
  · rw [h]; exact Nat.le_refl _
  · rw [pk_n h]; exact Nat.zero_le _
theorem pos_dec {z : Int} (hm : 0 ≤ m ∧ m ≤ 2) (h1 : M' o 5 m = z) (h2 : z ≠ 0) (h3 : ∀ m', m' ≠ m → M' o 5 m' = M o 5 m') (h4 : m = 2 → M' o 9 (-1) = M o 9 (-1)) (h5 : m ≠ 2 → M' o 10 (-1) = M o 10 (-1)) (h6 : (if m = 2 then M' o 10 (-1) else M' o 9 (-1)) ≠ 0 ∨ M' = M) : pos n M' o + spd n m M o ≤ pos n M o := by
  rcases h6 with h6 | h6
  · have p5 : ∀ m', pk (M' o 5 m') (cst n m') ≤ pk (M o 5 m') (cst n m') := fun m' => pq_le (by
      by_cases e : m' = m
      · right; rw [e, h1]; exact h2
      · exact Or.inl (h3 m' e))
    have a0 := p5 0
    have a1 := p5 1
    have a2 := p5 2
    have pm : pk (M' o 5 m) (cst n m) = 0 := by rw [h1]; exact pk_n h2
    have s : spd n m M o ≤ pk (M o 5 m) (cst n m) + pk (if m = 2 then M o 10 (-1) else M o 9 (-1)) 20488 := by
      unfold spd
      by_cases e : M o 5 m = 0
      · rw [if_pos e, e, pk_0]; exact Nat.le_refl _
      · rw [if_neg e]; exact Nat.zero_le _
    unfold pos
    by_cases e : m = 2
    · subst e
      rw [if_pos rfl] at h6 s
      rw [pm]
      rw [pk_n h6, h4 rfl]
      omega
    · rw [if_neg e] at h6 s
      rw [pk_n h6, h5 e]
      rcases (show m = 0 ∨ m = 1 by omega) with e2 | e2
      · subst e2
        rw [pm]
        omega
      · subst e2
        rw [pm]
        omega
  · subst h6
    have : spd n m M' o = 0 := by
      unfold spd
      rw [if_neg (by rw [h1]; exact h2)]
    omega
theorem spd_pos (hm : 0 ≤ m ∧ m ≤ 2) : spd n m M o ≤ pos n M o := by
  have : spd n m M o ≤ pk (M o 5 m) (cst n m) + pk (if m = 2 then M o 10 (-1) else M o 9 (-1)) 20488 := by
    unfold spd
    by_cases e : M o 5 m = 0
    · rw [if_pos e, e, pk_0]; exact Nat.le_refl _
    · rw [if_neg e]; exact Nat.zero_le _
  unfold pos
  rcases (show m = 0 ∨ m = 1 ∨ m = 2 by omega) with e | e | e
  · subst e; rw [if_neg (by decide)] at this; omega
  · subst e; rw [if_neg (by decide)] at this; omega
  · subst e; rw [if_pos rfl] at this; omega
theorem spd_all (hm : 0 ≤ m ∧ m ≤ 2) (h : M o 5 0 ≠ 0 ∧ M o 5 1 ≠ 0 ∧ M o 5 2 ≠ 0) : spd n m M o = 0 := by
  unfold spd
  rcases (show m = 0 ∨ m = 1 ∨ m = 2 by omega) with e | e | e
  · subst e; rw [if_neg h.1]
  · subst e; rw [if_neg h.2.1]
  · subst e; rw [if_neg h.2.2]
theorem spd_pot (hm : 0 ≤ m ∧ m ≤ 2) : spd n m M o ≤ pot n M o := by
  unfold pot
  by_cases e : M o 5 0 ≠ 0 ∧ M o 5 1 ≠ 0 ∧ M o 5 2 ≠ 0
  · rw [if_pos e, spd_all hm e]; exact Nat.le_refl _
  · rw [if_neg e]; exact spd_pos hm
theorem pot_dec {z : Int} (hm : 0 ≤ m ∧ m ≤ 2) (h1 : M' o 5 m = z) (h2 : z ≠ 0) (h3 : ∀ m', m' ≠ m → M' o 5 m' = M o 5 m') (h4 : m = 2 → M' o 9 (-1) = M o 9 (-1)) (h5 : m ≠ 2 → M' o 10 (-1) = M o 10 (-1)) (h6 : (if m = 2 then M' o 10 (-1) else M' o 9 (-1)) ≠ 0 ∨ M' = M) : pot n M' o + spd n m M o ≤ pot n M o := by
  have d := pos_dec (n := n) hm h1 h2 h3 h4 h5 h6
  unfold pot
  by_cases e : M o 5 0 ≠ 0 ∧ M o 5 1 ≠ 0 ∧ M o 5 2 ≠ 0
  · have nz : ∀ m', M o 5 m' ≠ 0 → M' o 5 m' ≠ 0 := fun m' q => by
      by_cases e2 : m' = m
      · rw [e2, h1]; exact h2
      · rw [h3 m' e2]; exact q
    rw [if_pos e, if_pos ⟨nz 0 e.1, nz 1 e.2.1, nz 2 e.2.2⟩, spd_all hm e]
    exact Nat.le_refl _
  · rw [if_neg e]
    split
    · omega
    · exact d
/-- a board of another size -/
theorem brd.ol2 {i : Int} (hb : brd i kd ln M o) (e : ∀ x, (x = o ∨ kd x = 2 ∨ kd x = 5) → kd' x = kd x ∧ ln' x = ln x ∧ M' x = M x) : brd i kd' ln' M' o := by
  obtain ⟨⟨h1, h2, h3, h4⟩, h5, h6, h7⟩ := hb
  have eo := e o (Or.inl rfl)
  refine ⟨⟨by rw [eo.2.1]; exact h1, by rw [eo.2.2]; exact h2, by rw [eo.1]; exact h3, h4⟩, ?_, ?_, fun m hm => ?_⟩
  · rw [eo.2.2]
    exact h5.imp id (fun q => q.old (e _ (Or.inr (Or.inl q.2.2.2.1))))
  · rw [eo.2.2]
    exact h6.imp id (fun q => q.old (e _ (Or.inr (Or.inl q.2.2.2.1))))
  · rw [eo.2.2]
    refine (h7 m hm).imp id (fun ⟨q, t⟩ => ⟨q, t.old ⟨eo.1, eo.2.1⟩ (by rw [eo.2.2]; exact h2) (e q (Or.inr (Or.inl t.1.2.1.2.2.2))) (e _ (Or.inr (Or.inr t.2.2.2.2.2.1)))⟩)
theorem brd_ne {i j o' : Int} (h1 : brd i kd ln M o) (h2 : brd j kd ln M o') (hij : i ≠ j) : o ≠ o' := fun e => by
  have a := h1.1.2.1.1.1
  have b := h2.1.2.1.1.1
  rw [e, b] at a
  exact hij a.symm
/-- old objects but the house and its board -/
def grw (h o : Int) (l : List Nat) (kd : gKd) (ln : gLn) (M : gM) (kd' : gKd) (ln' : gLn) (M' : gM) : Prop := (∀ x, (kd x < 8 ∨ x < 0) → kd' x = kd x ∧ ln' x = ln x ∧ (x ≠ h → x ≠ o → M' x = M x)) ∧ ∀ k, k ∉ l → M' h k = M h k
theorem grw.tr {l : List Nat} {kd2 : gKd} {ln2 : gLn} {M2 : gM} (h1 : grw h o l kd ln M kd' ln' M') (h2 : grw h o l kd' ln' M' kd2 ln2 M2) : grw h o l kd ln M kd2 ln2 M2 := by
  refine ⟨fun x hx => ?_, fun k hk => (h2.2 k hk).trans (h1.2 k hk)⟩
  obtain ⟨a1, a2, a3⟩ := h1.1 x hx
  obtain ⟨b1, b2, b3⟩ := h2.1 x (by rw [a1]; exact hx)
  exact ⟨b1.trans a1, b2.trans a2, fun e1 e2 => (b3 e1 e2).trans (a3 e1 e2)⟩
/-- the parts of a house that its tables don't touch -/
theorem hou.gw {l : List Nat} (hN : mN n) (hH : hou n kd ln M h) (g : grw h (M h 1 (-1)) l kd ln M kd' ln' M') (hl : ∀ k ∈ [0, 1, 3, 4, 5, 6], k ∉ l) (hb : brd n kd' ln' M' (M h 1 (-1))) (hmade : (∀ m, (0 ≤ m ∧ m ≤ 2) → M' h 2 m ≠ 0 → M' (M h 1 (-1)) 5 m ≠ 0) ∧ (M' h 2 2 ≠ 0 → M' h 2 0 ≠ 0 ∧ M' h 2 1 ≠ 0)) : hou n kd' ln' M' h := by
  have bd := hH.bd hN
  obtain ⟨⟨kh, h0⟩, hL, ⟨b1, b2⟩, hB, -, ⟨⟨x1, x2⟩, p4, ⟨x3, x4⟩, p6⟩, hne⟩ := hH
  have e : ∀ k ∈ [0, 1, 3, 4, 5, 6], M' h k = M h k := fun k hk => g.2 k (hl k hk)
  have kh8 : kd h < 8 := by rw [kh]; decide
  have gh := g.1 h (Or.inl kh8)
  have g3 := g.1 (M h 3 (-1)) (Or.inl (by rw [x1]; decide))
  have g4 := g.1 (M h 4 (-1)) (Or.inl (by rw [p4]; decide))
  have g5 := g.1 (M h 5 (-1)) (Or.inl (by rw [x3]; decide))
  have g6 := g.1 (M h 6 (-1)) (Or.inl (by rw [p6]; decide))
  refine ⟨⟨by rw [gh.1]; exact kh, h0⟩, by rw [gh.2.1]; exact hL, ⟨by rw [e 0 (by decide), e 1 (by decide)]; exact b1, by rw [e 0 (by decide)]; exact b2⟩, fun i hi => ?_, ?_, ?_, ?_⟩
  · rw [e 0 (by decide)]
    by_cases ei : i = n
    · right
      rw [ei, ← b1]
      exact hb
    · refine (hB i hi).imp id (fun q => q.ol2 (fun x hx => ?_))
      have k8 : kd x < 8 := by
        rcases hx with hx | hx | hx
        · rw [hx, q.1.2.2.1]; decide
        · rw [hx]; decide
        · rw [hx]; decide
      have gx := g.1 x (Or.inl k8)
      refine ⟨gx.1, gx.2.1, gx.2.2 (fun e2 => ?_) (fun e2 => ?_)⟩
      · rw [e2, kh] at hx
        rcases hx with hx | hx | hx
        · have := q.1.2.2.1
          rw [← hx, kh] at this
          exact absurd this (by decide)
        · exact absurd hx (by decide)
        · exact absurd hx (by decide)
      · rcases hx with hx | hx | hx
        · exact brd_ne q bd ei (by rw [← hx, e2])
        · rw [e2, bd.1.2.2.1] at hx; exact absurd hx (by decide)
        · rw [e2, bd.1.2.2.1] at hx; exact absurd hx (by decide)
  · rw [e 0 (by decide), ← b1]
    exact hmade
  · rw [e 3 (by decide), e 4 (by decide), e 5 (by decide), e 6 (by decide), g3.1, g3.2.1, g4.1, g5.1, g5.2.1, g6.1]
    exact ⟨⟨x1, x2⟩, p4, ⟨x3, x4⟩, p6⟩
  · rw [e 3 (by decide), e 5 (by decide)]
    exact hne
/-- the boards that are not the current one have what they had -/
theorem pt_gw {l : List Nat} {i : Int} (hN : mN n) (hH : hou n kd ln M h) (g : grw h (M h 1 (-1)) l kd ln M kd' ln' M') (h0 : 0 ∉ l) (hi : mN i) (hne : i ≠ n) : pt M' h i = pt M h i := by
  have bd := hH.bd hN
  have kh := hH.1.1
  unfold pt
  rw [g.2 0 h0]
  by_cases e : M h 0 i = 0
  · rw [if_pos e, if_pos e]
  · rw [if_neg e, if_neg e]
    have q := (hH.2.2.2.1 i hi).resolve_left e
    have gx := (g.1 (M h 0 i) (Or.inl (by rw [q.1.2.2.1]; decide))).2.2 (fun e2 => by
      have := q.1.2.2.1
      rw [e2, kh] at this
      exact absurd this (by decide)) (brd_ne q bd hne)
    unfold pot pos
    rw [gx]
theorem PT_gw {l : List Nat} (hN : mN n) (hH : hou n kd ln M h) (g : grw h (M h 1 (-1)) l kd ln M kd' ln' M') (h0 : 0 ∉ l) {s : Nat} (hs : pot n M' (M h 1 (-1)) + s ≤ pot n M (M h 1 (-1))) : PT M' h + s ≤ PT M h := by
  have cur : pt M' h n + s ≤ pt M h n := by
    unfold pt
    rw [g.2 0 h0, if_neg hH.2.2.1.2, if_neg hH.2.2.1.2, ← hH.2.2.1.1]
    exact hs
  have oth : ∀ i, mN i → i ≠ n → pt M' h i = pt M h i := fun i hi hne => pt_gw hN hH g h0 hi hne
  unfold PT
  rcases mN_cases hN with rfl | rfl | rfl | rfl | rfl
  · have := oth 5 (by decide) (by decide); have := oth 6 (by decide) (by decide); have := oth 7 (by decide) (by decide); have := oth 8 (by decide) (by decide); omega
  · have := oth 4 (by decide) (by decide); have := oth 6 (by decide) (by decide); have := oth 7 (by decide) (by decide); have := oth 8 (by decide) (by decide); omega
  · have := oth 4 (by decide) (by decide); have := oth 5 (by decide) (by decide); have := oth 7 (by decide) (by decide); have := oth 8 (by decide) (by decide); omega
  · have := oth 4 (by decide) (by decide); have := oth 5 (by decide) (by decide); have := oth 6 (by decide) (by decide); have := oth 8 (by decide) (by decide); omega
  · have := oth 4 (by decide) (by decide); have := oth 5 (by decide) (by decide); have := oth 6 (by decide) (by decide); have := oth 7 (by decide) (by decide); omega
end NW
