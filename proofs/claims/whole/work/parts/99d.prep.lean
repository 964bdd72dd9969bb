/-! TABLES OF A BOARD -/
section PR
variable {kd kd' : gKd} {ln ln' : gLn} {M M' : gM} {o q z y n m : Int}
/-- pairs of kings that stand -/
def kpO (n m : Int) (kd : gKd) (ln : gLn) (M : gM) (o q : Int) : Prop := M q 4 (-1) = o ∧ kpL n (ln q) ∧ kpG n m (M q) ∧ kd q = 2 ∧ 0 < q
def brd (n : Int) (kd : gKd) (ln : gLn) (M : gM) (o : Int) : Prop := (bdL n (ln o) ∧ bdG n (M o) ∧ kd o = 0 ∧ 0 < o) ∧ (M o 9 (-1) = 0 ∨ kpO n 0 kd ln M o (M o 9 (-1))) ∧ (M o 10 (-1) = 0 ∨ kpO n 2 kd ln M o (M o 10 (-1))) ∧ ∀ m, (0 ≤ m ∧ m ≤ 2) → M o 5 m = 0 ∨ ∃ q, tbD n m kd ln M o q (M o 5 m)
/-- what stood stands as it was, but slots l of o -/
def gro (o : Int) (l : List Nat) (kd : gKd) (ln : gLn) (M : gM) (kd' : gKd) (ln' : gLn) (M' : gM) : Prop := (∀ x, (kd x < 8 ∨ x < 0) → kd' x = kd x ∧ ln' x = ln x ∧ (x ≠ o → M' x = M x)) ∧ ∀ k, k ∉ l → M' o k = M o k
theorem gro.rf {l : List Nat} : gro o l kd ln M kd ln M := ⟨fun _ _ => ⟨rfl, rfl, fun _ => rfl⟩, fun _ _ => rfl⟩
theorem gro.tr {l : List Nat} {kd2 : gKd} {ln2 : gLn} {M2 : gM} (h : gro o l kd ln M kd' ln' M') (h' : gro o l kd' ln' M' kd2 ln2 M2) : gro o l kd ln M kd2 ln2 M2 := by
  refine ⟨fun x hx => ?_, fun k hk => (h'.2 k hk).trans (h.2 k hk)⟩
  obtain ⟨a1, a2, a3⟩ := h.1 x hx
  obtain ⟨b1, b2, b3⟩ := h'.1 x (by rw [a1]; exact hx)
  exact ⟨b1.trans a1, b2.trans a2, fun e => (b3 e).trans (a3 e)⟩
theorem gro.mo {l l' : List Nat} (h : gro o l kd ln M kd' ln' M') (hl : ∀ k ∈ l, k ∈ l') : gro o l' kd ln M kd' ln' M' := ⟨h.1, fun k hk => h.2 k (fun q => hk (hl k q))⟩
theorem gro.ne {l : List Nat} (h : gro o l kd ln M kd' ln' M') {x : Int} (hx : kd x < 8) (hne : x ≠ o) : kd' x = kd x ∧ ln' x = ln x ∧ M' x = M x := ⟨(h.1 x (Or.inl hx)).1, (h.1 x (Or.inl hx)).2.1, (h.1 x (Or.inl hx)).2.2 hne⟩
theorem gro_new {c : Nat} (hz : 8 ≤ kd z) (hz0 : 0 < z) (ho : kd o < 8) : gro o [] kd ln M (gkn kd z c) ln (gzr M z) := by
  have hne : ∀ x, (kd x < 8 ∨ x < 0) → x ≠ z := fun x hx e => by rw [e] at hx; omega
  refine ⟨fun x hx => ⟨gkn_n (hne x hx), rfl, fun _ => ?_⟩, fun k _ => ?_⟩
  · funext j i
    unfold gzr
    rw [if_neg (hne x hx)]
  · funext i
    unfold gzr
    rw [if_neg (hne o (Or.inl ho))]
theorem gzr_z {k : Nat} {i : Int} : gzr M z z k i = 0 := if_pos rfl
theorem gzr_o {x : Int} (h : x ≠ z) : gzr M z x = M x := by
  funext j i
  unfold gzr
  rw [if_neg h]
theorem gro_mk {l : List Nat} {kd1 : gKd} {ln1 : gLn} {M1 : gM} (hz : 8 ≤ kd z) (hz0 : 0 < z) (ho : kd o < 8) (h1 : ∀ x, x ≠ z → kd1 x = kd x) (h2 : ∀ x, x ≠ z → ln1 x = ln x) (h3 : ∀ x, x ≠ z → M1 x = M x) : gro o l kd ln M kd1 ln1 M1 := by
  have hne : ∀ x, (kd x < 8 ∨ x < 0) → x ≠ z := fun x hx e => by rw [e] at hx; omega
  exact ⟨fun x hx => ⟨h1 x (hne x hx), h2 x (hne x hx), fun _ => h3 x (hne x hx)⟩, fun k _ => by rw [h3 o (hne o (Or.inl ho))]⟩
theorem kpG_01 {Q : Nat → Int → Int} (h : kpG n 0 Q) : kpG n 1 Q := by
  obtain ⟨h1, h2, h3, h4, h5⟩ := h
  refine ⟨h1, h2, h3, fun w b hw hb hv => ?_, h5⟩
  obtain ⟨a1, g1, g2, b1, b2, b3, b4, b5, b6, b7⟩ := h4 w b hw hb hv
  exact ⟨a1, g1, g2, ⟨b1.1, fun e => absurd e (by decide)⟩, ⟨b2.1, fun e => absurd e (by decide)⟩, b3, b4, b5, b6, fun g hg e => b7 g ⟨hg.1, fun e => absurd e (by decide)⟩ e⟩
theorem kpO.mm {m' : Int} (h : kpO n 0 kd ln M o q) (hm : m' = 0 ∨ m' = 1) : kpO n m' kd ln M o q := by
  rcases hm with rfl | rfl
  · exact h
  · exact ⟨h.1, h.2.1, kpG_01 h.2.2.1, h.2.2.2⟩
theorem kpO.old (h : kpO n m kd ln M o q) (e : kd' q = kd q ∧ ln' q = ln q ∧ M' q = M q) : kpO n m kd' ln' M' o q := by
  obtain ⟨h1, h2, h3, h4, h5⟩ := h
  exact ⟨by rw [e.2.2]; exact h1, by rw [e.2.1]; exact h2, by rw [e.2.2]; exact h3, by rw [e.1]; exact h4, h5⟩
/-- of a board a table needs its squares alone -/
theorem tbC.old (h : tbC n m kd ln M o q z) (eo : kd' o = kd o ∧ ln' o = ln o) (bo : bdG n (M' o)) (eq : kd' q = kd q ∧ ln' q = ln q ∧ M' q = M q) (ez : ln' z = ln z ∧ M' z = M z) : tbC n m kd' ln' M' o q z := by
  obtain ⟨⟨a1, a2, a3, a4⟩, ⟨b1, b2, b3, b4⟩, ⟨c1, c2, c3, c4⟩, d⟩ := h
  exact ⟨⟨by rw [eo.2]; exact a1, bo, by rw [eo.1]; exact a3, a4⟩, ⟨by rw [eq.2.2]; exact b1, by rw [eq.2.1]; exact b2, by rw [eq.2.2]; exact b3, by rw [eq.1]; exact b4⟩, ⟨by rw [ez.2]; exact c1, by rw [ez.2]; exact c2, by rw [ez.2]; exact c3, by rw [ez.1]; exact c4⟩, d⟩
theorem tbD.old (h : tbD n m kd ln M o q z) (eo : kd' o = kd o ∧ ln' o = ln o) (bo : bdG n (M' o)) (eq : kd' q = kd q ∧ ln' q = ln q ∧ M' q = M q) (ez : kd' z = kd z ∧ ln' z = ln z ∧ M' z = M z) : tbD n m kd' ln' M' o q z := by
  obtain ⟨hC, hL, hV, hB, hS, hz⟩ := h
  exact ⟨hC.old eo bo eq ez.2, by rw [ez.2.1]; exact hL, by rw [ez.2.2]; exact hV, by rw [ez.2.2]; exact hB, by rw [ez.2.2]; exact hS, by rw [ez.1]; exact hz⟩
theorem bdG_gro {l : List Nat} (h : bdG n (M o)) (g : gro o l kd ln M kd' ln' M') (hl : ∀ k ∈ [0, 1, 2, 3, 4, 6, 8, 100, 101, 102], k ∉ l) : bdG n (M' o) := by
  have e : ∀ k ∈ [0, 1, 2, 3, 4, 6, 8, 100, 101, 102], M' o k = M o k := fun k hk => g.2 k (hl k hk)
  obtain ⟨h1, h2, h3, h4, h5, h6⟩ := h
  refine ⟨by rw [e 0 (by decide), e 1 (by decide)]; exact h1, by rw [e 2 (by decide), e 3 (by decide)]; exact h2, by rw [e 4 (by decide)]; exact h3, by rw [e 6 (by decide)]; exact h4, fun m a hm ha => ?_, by rw [e 8 (by decide)]; exact h6⟩
  have : 100 + m.toNat ∈ [0, 1, 2, 3, 4, 6, 8, 100, 101, 102] := by
    rcases (show m.toNat = 0 ∨ m.toNat = 1 ∨ m.toNat = 2 by omega) with e | e | e <;> rw [e] <;> decide
  rw [e _ this]
  exact h5 m a hm ha
/-- another object's growth leaves a board -/
theorem brd.old (h : brd n kd ln M o) (e : ∀ x, (kd x = 0 ∨ kd x = 2 ∨ kd x = 5) → kd' x = kd x ∧ ln' x = ln x ∧ M' x = M x) : brd n kd' ln' M' o := by
  obtain ⟨⟨h1, h2, h3, h4⟩, h5, h6, h7⟩ := h
  have eo := e o (Or.inl h3)
  refine ⟨⟨by rw [eo.2.1]; exact h1, by rw [eo.2.2]; exact h2, by rw [eo.1]; exact h3, h4⟩, ?_, ?_, fun m hm => ?_⟩
  · rw [eo.2.2]
    exact h5.imp id (fun q => q.old (e _ (Or.inr (Or.inl q.2.2.2.1))))
  · rw [eo.2.2]
    exact h6.imp id (fun q => q.old (e _ (Or.inr (Or.inl q.2.2.2.1))))
  · rw [eo.2.2]
    refine (h7 m hm).imp id (fun ⟨q, t⟩ => ⟨q, t.old ⟨eo.1, eo.2.1⟩ (by rw [eo.2.2]; exact h2) (e q (Or.inr (Or.inl t.1.2.1.2.2.2))) (e _ (Or.inr (Or.inr t.2.2.2.2.2.1)))⟩)
/-- a board whose own fields may change -/
theorem brd.gr {l : List Nat} (h : brd n kd ln M o) (g : gro o l kd ln M kd' ln' M') (hl : ∀ k ∈ [0, 1, 2, 3, 4, 6, 8, 100, 101, 102], k ∉ l) (h9 : M' o 9 (-1) = M o 9 (-1) ∨ kpO n 0 kd' ln' M' o (M' o 9 (-1))) (h10 : M' o 10 (-1) = M o 10 (-1) ∨ kpO n 2 kd' ln' M' o (M' o 10 (-1))) (h5 : ∀ m, (0 ≤ m ∧ m ≤ 2) → M' o 5 m = M o 5 m ∨ ∃ q, tbD n m kd' ln' M' o q (M' o 5 m)) : brd n kd' ln' M' o := by
  obtain ⟨⟨a1, a2, a3, a4⟩, b1, b2, b3⟩ := h
  have eo := g.1 o (Or.inl (by rw [a3]; decide))
  have bG := bdG_gro a2 g hl
  have kq : ∀ {m q}, kpO n m kd ln M o q → kd' q = kd q ∧ ln' q = ln q ∧ M' q = M q := fun {m q} hq => g.ne (by rw [hq.2.2.2.1]; decide) (fun e => by
    have := hq.2.2.2.1
    rw [e, a3] at this
    exact absurd this (by decide))
  refine ⟨⟨by rw [eo.2.1]; exact a1, bG, by rw [eo.1]; exact a3, a4⟩, ?_, ?_, fun m hm => ?_⟩
  · rcases h9 with h9 | h9
    · rw [h9]
      exact b1.imp id (fun q => q.old (kq q))
    · exact Or.inr h9
  · rcases h10 with h10 | h10
    · rw [h10]
      exact b2.imp id (fun q => q.old (kq q))
    · exact Or.inr h10
  · rcases h5 m hm with e | e
    · rw [e]
      refine (b3 m hm).imp id (fun ⟨q, t⟩ => ⟨q, t.old ⟨eo.1, eo.2.1⟩ bG (g.ne (by rw [t.1.2.1.2.2.2]; decide) (fun e => by
        have := t.1.2.1.2.2.2
        rw [e, a3] at this
        exact absurd this (by decide))) (g.ne (by rw [t.2.2.2.2.2.1]; decide) (fun e => by
        have := t.2.2.2.2.2.1
        rw [e, a3] at this
        exact absurd this (by decide)))⟩)
    · exact Or.inr e
def pk (v : Int) (c : Nat) : Nat := if v = 0 then c else 0
theorem pk_0 {c : Nat} : pk 0 c = c := if_pos rfl
theorem pk_n {v : Int} {c : Nat} (h : v ≠ 0) : pk v c = 0 := if_neg h
theorem sX0_pairsFor {post : Int → gKd → gLn → gM → Prop} {mc ms : Nat} (hN : mN n) (hm : 0 ≤ m ∧ m ≤ 2) (hb : brd n kd ln M o) (hmc : 6 ≤ mc) (hms : pk (if m = 2 then M o 10 (-1) else M o 9 (-1)) 20488 ≤ ms) (h : ∀ q kd' ln' M', gro o [9, 10] kd ln M kd' ln' M' → brd n kd' ln' M' o → kpO n m kd' ln' M' o q → (if m = 2 then M' o 10 (-1) else M' o 9 (-1)) = q → (m = 2 → M' o 9 (-1) = M o 9 (-1)) → (m ≠ 2 → M' o 10 (-1) = M o 10 (-1)) → post q kd' ln' M') : wX0_pairsFor mc ms kd ln post o m M := by
  have hb0 := hb
  obtain ⟨⟨a1, a2, a3, a4⟩, b1, b2, b3⟩ := hb0
  have ko : kd o < 8 := by rw [a3]; decide
  have self : ∀ (k : Nat) (v : Int), (k = 9 ∨ k = 10) → ∀ {kd1 ln1 M1}, gro o [9, 10] kd ln M kd1 ln1 M1 → gro o [9, 10] kd ln M kd1 ln1 (gu M1 o k (-1) v) := fun k v hk kd1 ln1 M1 g => ⟨fun x hx => ⟨(g.1 x hx).1, (g.1 x hx).2.1, fun e => by rw [gu_o e]; exact (g.1 x hx).2.2 e⟩, fun j hj => by
    rw [gu_k (fun e => hj (by rw [e]; rcases hk with e | e <;> rw [e] <;> decide))]
    exact g.2 j hj⟩
  unfold wX0_pairsFor
  refine ⟨by omega, fun g => ?_, fun g => ?_⟩
  · rw [if_neg g] at hms
    have m01 : m = 0 ∨ m = 1 := by omega
    refine ⟨fun g2 => ?_, fun g2 => ?_⟩
    · have kq : kpO n 0 kd ln M o (M o 9 (-1)) := b1.resolve_left g2
      have e : gu M o 9 (-1) (M o 9 (-1)) = M := by
        funext x j i
        rw [gu_rd]
        split
        · next q => rw [q.1, q.2.1, q.2.2]
        · rfl
      unfold wX0_pairsFor_62
      rw [e]
      exact ⟨kq.2.2.2.1, kq.2.2.2.1, by omega, kq.2.2.2.2, kq.2.2.2.1, h _ kd ln M gro.rf hb (kq.mm m01) (if_neg g) (fun e => absurd e g) (fun _ => rfl)⟩
    · rw [g2, pk_0] at hms
      refine ⟨by omega, ?_⟩
      intro q kd1 M1 q0 q8 qf ek eM
      subst ek eM
      have gn := gro_new (kd := kd) (ln := ln) (M := M) (c := 2) q8 q0 ko
      have oq : o ≠ q := fun e => by rw [← e] at q8; omega
      have ini := sX2_init (post := fun kd21 ln22 M24 => wX0_pairsFor_62 mc ms post o m kd21 ln22 (0 + 1 + 5) (0 + 8 + 20480) q M24) (m := 0) (mc := 5) (ms := 20480) (kd := gkn kd q 2) (M := gzr M q) hN a1 (bdG_gro a2 gn (by decide)) (by rw [gkn_n oq]; exact a3) a4 oq qf (fun k i => gzr_z) (by omega) (by omega) (fun ln1 M1 f1 f2 f3 f4 f5 => ?_)
      · rw [show ((mNs 0 + 1 : Nat) : Int) = 8 by decide] at ini
        exact ⟨5, 20480, by omega, ini⟩
      · have g1 := self 9 q (Or.inl rfl) (gro_mk (l := [9, 10]) (kd1 := gkn kd q 2) q8 q0 ko (fun x e => gkn_n e) f1 (fun x e => (f3 x e).trans (gzr_o e)))
        have kk : kpO n 0 (gkn kd q 2) ln1 (gu M1 o 9 (-1) q) o q := ⟨by rw [gu_o (fun e => oq e.symm)]; exact f4, f2, by rw [gu_o (fun e => oq e.symm)]; exact f5, gkn_s, q0⟩
        have e9 : (gu M1 o 9 (-1) q) o 9 (-1) = q := gu_s
        have e10 : (gu M1 o 9 (-1) q) o 10 (-1) = M o 10 (-1) := by rw [gu_k (by decide), f3 o oq, gzr_o oq]
        have e5 : (gu M1 o 9 (-1) q) o 5 = M o 5 := by rw [gu_k (by decide), f3 o oq, gzr_o oq]
        unfold wX0_pairsFor_62
        rw [e9]
        refine ⟨gkn_s, by omega, q0, gkn_s, h q _ ln1 _ g1 (hb.gr g1 (by decide) (Or.inr (by rw [e9]; exact kk)) (Or.inl e10) (fun m' _ => Or.inl (by rw [e5]))) (kk.mm m01) (by rw [if_neg g]; exact e9) (fun e => absurd e g) (fun _ => e10)⟩
  · rw [if_pos g] at hms
    refine ⟨fun g2 => ?_, fun g2 => ?_⟩
    · have kq : kpO n 2 kd ln M o (M o 10 (-1)) := b2.resolve_left g2
      have e : gu M o 10 (-1) (M o 10 (-1)) = M := by
        funext x j i
        rw [gu_rd]
        split
        · next q => rw [q.1, q.2.1, q.2.2]
        · rfl
      unfold wX0_pairsFor_29
      rw [e]
      exact ⟨kq.2.2.2.1, kq.2.2.2.1, by omega, kq.2.2.2.2, kq.2.2.2.1, h _ kd ln M gro.rf hb (by rw [g]; exact kq) (if_pos g) (fun _ => rfl) (fun e => absurd g e)⟩
    · rw [g2, pk_0] at hms
      refine ⟨by omega, ?_⟩
      intro q kd1 M1 q0 q8 qf ek eM
      subst ek eM
      have gn := gro_new (kd := kd) (ln := ln) (M := M) (c := 2) q8 q0 ko
      have oq : o ≠ q := fun e => by rw [← e] at q8; omega
      have ini := sX2_init (post := fun kd21 ln22 M24 => wX0_pairsFor_29 mc ms post o m kd21 ln22 (0 + 1 + 5) (0 + 8 + 20480) q M24) (m := 2) (mc := 5) (ms := 20480) (kd := gkn kd q 2) (M := gzr M q) hN a1 (bdG_gro a2 gn (by decide)) (by rw [gkn_n oq]; exact a3) a4 oq qf (fun k i => gzr_z) (by omega) (by omega) (fun ln1 M1 f1 f2 f3 f4 f5 => ?_)
      · rw [show ((mNs 2 + 1 : Nat) : Int) = 2 by decide] at ini
        exact ⟨5, 20480, by omega, ini⟩
      · have g1 := self 10 q (Or.inr rfl) (gro_mk (l := [9, 10]) (kd1 := gkn kd q 2) q8 q0 ko (fun x e => gkn_n e) f1 (fun x e => (f3 x e).trans (gzr_o e)))
        have kk : kpO n 2 (gkn kd q 2) ln1 (gu M1 o 10 (-1) q) o q := ⟨by rw [gu_o (fun e => oq e.symm)]; exact f4, f2, by rw [gu_o (fun e => oq e.symm)]; exact f5, gkn_s, q0⟩
        have e10 : (gu M1 o 10 (-1) q) o 10 (-1) = q := gu_s
        have e9 : (gu M1 o 10 (-1) q) o 9 (-1) = M o 9 (-1) := by rw [gu_k (by decide), f3 o oq, gzr_o oq]
        have e5 : (gu M1 o 10 (-1) q) o 5 = M o 5 := by rw [gu_k (by decide), f3 o oq, gzr_o oq]
        unfold wX0_pairsFor_29
        rw [e10]
        refine ⟨gkn_s, by omega, q0, gkn_s, h q _ ln1 _ g1 (hb.gr g1 (by decide) (Or.inl e9) (Or.inr (by rw [e10]; exact kk)) (fun m' _ => Or.inl (by rw [e5]))) (by rw [g]; exact kk) (by rw [if_pos g]; exact e10) (fun _ => e9) (fun e => absurd g e)⟩
/-- what a table costs -/
noncomputable def cst (n m : Int) : Nat := 11 + (263 + 129 * (pn n m (n * n * (n * n))).toNat) + 11 + (127 + cN (cPb n m) (mAl3 n).toNat + 2 * (if m = 2 then pn n m (n * n * (n * n)) * n else 0).toNat)
noncomputable def spd (n m : Int) (M : gM) (o : Int) : Nat := if M o 5 m = 0 then cst n m + pk (if m = 2 then M o 10 (-1) else M o 9 (-1)) 20488 else 0
theorem sX0_prepare {post : Int → gKd → gLn → gM → Prop} {mc ms : Nat} (hN : mN n) (hm : 0 ≤ m ∧ m ≤ 2) (hb : brd n kd ln M o) (htab : m = 2 → M o 5 0 ≠ 0 ∧ M o 5 1 ≠ 0) (hmc : 30 ≤ mc) (hms : spd n m M o ≤ ms) (h : ∀ z kd' ln' M', gro o [5, 9, 10] kd ln M kd' ln' M' → brd n kd' ln' M' o → M' o 5 m = z → z ≠ 0 → (∃ q, tbD n m kd' ln' M' o q z) → (∀ m', m' ≠ m → M' o 5 m' = M o 5 m') → (m = 2 → M' o 9 (-1) = M o 9 (-1)) → (m ≠ 2 → M' o 10 (-1) = M o 10 (-1)) → ((if m = 2 then M' o 10 (-1) else M' o 9 (-1)) ≠ 0 ∨ M' = M) → post z kd' ln' M') : wX0_prepare mc ms kd ln post o m M := by
  have hb0 := hb
  obtain ⟨⟨a1, a2, a3, a4⟩, b1, b2, b3⟩ := hb0
  have ko : kd o < 8 := by rw [a3]; decide
  have l5 := a1.2.2.2.1
  unfold wX0_prepare
  rw [l5]
  refine ⟨by omega, by omega, fun g => ?_, fun g => ?_⟩
  · obtain ⟨q, t⟩ := (b3 m hm).resolve_left g
    unfold wX0_prepare_61
    exact ⟨by omega, t.2.2.2.2.2.1, h _ kd ln M gro.rf hb rfl g ⟨q, t⟩ (fun _ _ => rfl) (fun _ => rfl) (fun _ => rfl) (Or.inr rfl)⟩
  · unfold spd at hms
    rw [if_pos g] at hms
    unfold cst at hms
    refine ⟨by omega, ?_⟩
    intro z kd1 M1 z0 z8 zf ek eM
    have oz : o ≠ z := fun e => by rw [← e] at z8; omega
    have gz : gro o [5, 9, 10] kd ln M kd1 ln M1 := by
      rw [ek, eM]
      exact (gro_new z8 z0 ko).mo (fun k hk => absurd hk (List.not_mem_nil))
    have kz : kd1 z = 5 := by rw [ek]; exact gkn_s
    have M1o : M1 o = M o := by rw [eM]; exact gzr_o oz
    have bz : brd n kd1 ln M1 o := hb.gr gz (by decide) (Or.inl (by rw [M1o])) (Or.inl (by rw [M1o])) (fun m' _ => Or.inl (by rw [M1o]))
    refine ⟨6, pk (if m = 2 then M o 10 (-1) else M o 9 (-1)) 20488, by omega, sX0_pairsFor hN hm bz (by omega) (by rw [M1o]; omega) (fun q kd2 ln2 M2 g2 br2 kp2 f9 f9a f10a => ?_)⟩
    have z2 := g2.ne (x := z) (by rw [kz]; decide) (fun e => oz e.symm)
    have kz2 : kd2 z = 5 := z2.1.trans kz
    have qz : z ≠ q := fun e => by
      have := kp2.2.2.2.1
      rw [← e, kz2] at this
      exact absurd this (by decide)
    have oq : o ≠ q := fun e => by
      have := kp2.2.2.2.1
      rw [← e, br2.1.2.2.1] at this
      exact absurd this (by decide)
    refine ⟨kp2.2.2.2.1, 7, 263 + 129 * (pn n m (n * n * (n * n))).toNat, by omega, ?_⟩
    refine sX5_init hN hm br2.1 ⟨kp2.1, kp2.2.1, kp2.2.2.1, kp2.2.2.2.1⟩ kp2.2.2.2.2 ⟨fun e => oz e.symm, qz, oq⟩ (fun k => by rw [z2.2.1]; exact zf k) (fun k i => by rw [z2.2.2, eM]; exact gzr_z) (by omega) (by omega) (fun ln3 M3 f1 f2 f3 f4 f5 f6 f7 => ?_)
    refine ⟨by omega, ?_⟩
    intro y kd4 M4 y0 y8 yf ek4 eM4
    have ne : ∀ x, kd2 x < 8 → x ≠ y := fun x hx e => by rw [e] at hx; omega
    have yo : o ≠ y := ne o (by rw [br2.1.2.2.1]; decide)
    have yq : q ≠ y := ne q (by rw [kp2.2.2.2.1]; decide)
    have yz : z ≠ y := ne z (by rw [kz2]; decide)
    have k4 : ∀ x, x ≠ y → kd4 x = kd2 x := fun x hx => by rw [ek4]; exact gkn_n hx
    have M4o : ∀ x, x ≠ y → M4 x = M3 x := fun x hx => by rw [eM4]; exact gzr_o hx
    have f4' : tbC n m kd4 ln3 M4 o q z := f4.old ⟨k4 o yo, rfl⟩ (by rw [M4o o yo]; exact f4.1.2.1) ⟨k4 q yq, rfl, M4o q yq⟩ ⟨rfl, M4o z yz⟩
    refine ⟨4, 127 + cN (cPb n m) (mAl3 n).toNat + 2 * (if m = 2 then pn n m (n * n * (n * n)) * n else 0).toNat, by omega, ?_⟩
    refine sX3_init (cap := if m = 2 then pn n m (n * n * (n * n)) * n else 0) hN hm f4' f2 (by rw [M4o z yz]; exact f5) (by rw [M4o z yz]; exact f6) ⟨(k4 z yz).trans kz2, z0⟩ kp2.2.2.2.2 ⟨fun e => yo e.symm, fun e => yq e.symm, fun e => yz e.symm⟩ yf (fun k i => by rw [eM4]; exact gzr_z) rfl (by omega) (by omega) (fun ln5 M5 u1 u2 u3 u4 u5 u6 => ?_)
    -- what stood before
    have all : ∀ x, (kd x < 8 ∨ x < 0) → x ≠ z ∧ x ≠ y ∧ (kd2 x < 8 ∨ x < 0) := fun x hx => by
      have xz : x ≠ z := fun e => by rw [e] at hx; omega
      have k1 : kd1 x = kd x := (gz.1 x hx).1
      have k2 : kd2 x = kd1 x := (g2.1 x (by rw [k1]; exact hx)).1
      have h2 : kd2 x < 8 ∨ x < 0 := by rw [k2, k1]; exact hx
      exact ⟨xz, fun e => by rw [e] at h2; omega, h2⟩
    have same : ∀ x, (kd x < 8 ∨ x < 0) → kd4 x = kd x ∧ ln5 x = ln x ∧ (x ≠ o → M5 x = M x) := fun x hx => by
      obtain ⟨xz, xy, h2⟩ := all x hx
      have s1 := gz.1 x hx
      have s2 := g2.1 x (by rw [s1.1]; exact hx)
      exact ⟨(k4 x xy).trans (s2.1.trans s1.1), (u1 x xy).trans ((f1 x xz).trans (s2.2.1.trans s1.2.1)), fun e => (u2 x xy).trans ((M4o x xy).trans ((f3 x xz).trans ((s2.2.2 e).trans (s1.2.2 e))))⟩
    have M5o : M5 o = M2 o := (u2 o yo).trans ((M4o o yo).trans (f3 o oz))
    have M5k : ∀ k, k ∉ [9, 10] → M5 o k = M o k := fun k hk => by rw [M5o, g2.2 k hk, M1o]
    have l55 : ln5 o 5 = 3 := by rw [(same o (Or.inl ko)).2.1]; exact l5
    rw [l55]
    have capr : 0 ≤ (if m = 2 then pn n m (n * n * (n * n)) * n else 0) ∧ (if m = 2 then pn n m (n * n * (n * n)) * n else 0) ≤ 65536 := by
      have hSS : n * n * (n * n) ≤ 4096 ∧ 0 ≤ n * n * (n * n) := by rcases mN_cases hN with rfl | rfl | rfl | rfl | rfl <;> omega
      have pmx := pn_r (m := m) hN (c := n * n * (n * n)) (by omega)
      split
      · rcases mN_cases hN with rfl | rfl | rfl | rfl | rfl <;> omega
      · omega
    have bo5 : bdG n (M5 o) := by rw [M5o]; exact br2.1.2.1
    -- the tables of queen and rook
    have tab : ∀ m', (m' = 0 ∨ m' = 1) → m = 2 → ∃ q', (tbC n m' kd4 ln5 M5 o q' (M5 o 5 m') ∧ tbV n m' (M5 (M5 o 5 m')) (fun K => mDk n m' K)) ∧ (kd4 (M5 o 5 m') = 5 ∧ M5 o 5 m' ≠ 0) ∧ (q' ≠ y ∧ M5 o 5 m' ≠ y) ∧ q' ≠ z ∧ M5 o 5 m' ≠ z := fun m' h' e2 => by
      have nz : M o 5 m' ≠ 0 := by
        rcases h' with rfl | rfl
        · exact (htab e2).1
        · exact (htab e2).2
      obtain ⟨q', t⟩ := (b3 m' (by omega)).resolve_left nz
      have e5 : M5 o 5 m' = M o 5 m' := by rw [M5k 5 (by decide)]
      have kq' : kd q' = 2 := t.1.2.1.2.2.2
      have kt' := t.2.2.2.2.2
      have sq' := same q' (Or.inl (by rw [kq']; decide))
      have st' := same (M o 5 m') (Or.inl (by rw [kt'.1]; decide))
      have aq' := all q' (Or.inl (by rw [kq']; decide))
      have at' := all (M o 5 m') (Or.inl (by rw [kt'.1]; decide))
      have qo : q' ≠ o := fun e => by rw [e, a3] at kq'; exact absurd kq' (by decide)
      have to : M o 5 m' ≠ o := fun e => by
        have := kt'.1
        rw [e, a3] at this
        exact absurd this (by decide)
      rw [e5]
      have tt := t.old (kd' := kd4) (ln' := ln5) (M' := M5) ⟨(same o (Or.inl ko)).1, (same o (Or.inl ko)).2.1⟩ bo5 ⟨sq'.1, sq'.2.1, sq'.2.2 qo⟩ ⟨st'.1, st'.2.1, st'.2.2 to⟩
      exact ⟨q', ⟨tt.1, tt.2.2.1⟩, ⟨tt.2.2.2.2.2.1, by omega⟩, ⟨aq'.2.1, at'.2.1⟩, aq'.1, at'.1⟩
    have fin : ∀ {z0' z1' : Int}, z0' = M5 o 5 0 → z1' = M5 o 5 1 → wX3_work kd4 ln5 (fun M62 => (wX5_sumUp kd4 ln5 (fun M65 => ((0 ≤ m ∧ m < 3) ∧ wX0_prepare_61 mc ms post o m kd4 ln5 (0 + 1 + 6 + 7 + 1 + 4) (0 + 11 + pk (if m = 2 then M o 10 (-1) else M o 9 (-1)) 20488 + (263 + 129 * (pn n m (n * n * (n * n))).toNat) + 11 + (127 + cN (cPb n m) (mAl3 n).toNat + 2 * (if m = 2 then pn n m (n * n * (n * n)) * n else 0).toNat)) z (gu M65 o 5 m z))) z M62)) y z0' z1' M5 := fun {z0' z1'} ez0 ez1 => by
      have after : ∀ M6, (∀ a j, a ≠ y → ¬ (a = z ∧ j = 1) → M6 a j = M5 a j) → tbV n m (M6 z) (fun K => mDk n m K) → wX5_sumUp kd4 ln5 (fun M65 => ((0 ≤ m ∧ m < 3) ∧ wX0_prepare_61 mc ms post o m kd4 ln5 (0 + 1 + 6 + 7 + 1 + 4) (0 + 11 + pk (if m = 2 then M o 10 (-1) else M o 9 (-1)) 20488 + (263 + 129 * (pn n m (n * n * (n * n))).toNat) + 11 + (127 + cN (cPb n m) (mAl3 n).toNat + 2 * (if m = 2 then pn n m (n * n * (n * n)) * n else 0).toNat)) z (gu M65 o 5 m z))) z M6 := fun M6 w1 w2 => by
        have ez6 : ∀ j, j ≠ 1 → M6 z j = M3 z j := fun j hj => by rw [w1 z j yz (fun e => hj e.2), u2 z yz, M4o z yz]
        have Z6 : tbZ (M6 z) := by
          unfold tbZ
          rw [ez6 7 (by decide), ez6 3 (by decide), ez6 4 (by decide), ez6 5 (by decide), ez6 6 (by decide), ez6 10 (by decide)]
          exact f7
        have L6 : tbL n m (ln5 z) := by rw [u1 z yz]; exact f2
        refine sX5_sumUp hN hm L6 w2 Z6 (fun M7 c7 S7 => ⟨by omega, ?_⟩)
        have o7 : ∀ x, x ≠ y → x ≠ z → M7 x = M5 x := fun x hx hz => (c7.ot hz).trans (funext fun j => w1 x j hx (fun e => hz e.1))
        have e7z : ∀ j, j ∉ [1, 3, 4, 5, 6, 7, 10] → M7 z j = M3 z j := fun j hj => by
          rw [c7.at (fun q => hj (by revert q; simp; omega)), ez6 j (fun e => hj (by rw [e]; decide))]
        obtain ⟨M8, e8⟩ : ∃ M8, M8 = gu M7 o 5 m z := ⟨_, rfl⟩
        have M8n : ∀ x, x ≠ o → M8 x = M7 x := fun x hx => by rw [e8]; exact gu_o hx
        have M8o : ∀ k, k ≠ 5 → M8 o k = M2 o k := fun k hk => by rw [e8, gu_k hk, o7 o yo oz, M5o]
        have M85 : M8 o 5 m = z := by rw [e8]; exact gu_s
        have M85' : ∀ m', m' ≠ m → M8 o 5 m' = M o 5 m' := fun m' hm' => by rw [e8, gu_i hm', o7 o yo oz, M5k 5 (by decide)]
        have G8 : gro o [5, 9, 10] kd ln M kd4 ln5 M8 := by
          refine ⟨fun x hx => ?_, fun k hk => ?_⟩
          · obtain ⟨s1, s2, s3⟩ := same x hx
            obtain ⟨xz, xy, -⟩ := all x hx
            exact ⟨s1, s2, fun e => (M8n x e).trans ((o7 x xy xz).trans (s3 e))⟩
          · have k5 : k ≠ 5 := fun e => hk (by rw [e]; decide)
            have k9 : k ∉ [9, 10] := fun e => hk (by revert e; simp; omega)
            rw [M8o k k5, ← M5o, M5k k k9]
        have bo8 : bdG n (M8 o) := bdG_gro a2 G8 (by decide)
        have q8 : M8 q = M2 q := by rw [M8n q (fun e => oq e.symm), o7 q yq (fun e => qz e.symm), u2 q yq, M4o q yq, f3 q (fun e => qz e.symm)]
        have lq8 : ln5 q = ln2 q := by rw [u1 q yq, f1 q (fun e => qz e.symm)]
        have T8 : tbD n m kd4 ln5 M8 o q z := by
          refine ⟨⟨⟨by rw [(same o (Or.inl ko)).2.1]; exact a1, bo8, by rw [(same o (Or.inl ko)).1]; exact a3, a4⟩, ⟨by rw [q8]; exact kp2.1, by rw [lq8]; exact kp2.2.1, by rw [q8]; exact kp2.2.2.1, by rw [k4 q yq]; exact kp2.2.2.2.1⟩, ⟨?_, ?_, ?_, by rw [u1 z yz]; exact f2.1⟩, fun e => oz e.symm, qz, oq⟩, L6, ?_, ?_, ?_, (k4 z yz).trans kz2, z0⟩
          · rw [M8n z (fun e => oz e.symm), e7z 0 (by decide)]; exact f4.2.2.1.1
          · rw [M8n z (fun e => oz e.symm), e7z 2 (by decide)]; exact f4.2.2.1.2.1
          · rw [M8n z (fun e => oz e.symm), e7z 8 (by decide)]; exact f4.2.2.1.2.2.1
          · rw [M8n z (fun e => oz e.symm)]
            unfold tbV
            rw [c7.at (show 1 ∉ [3, 4, 5, 6, 7, 10] by decide)]
            exact w2
          · rw [M8n z (fun e => oz e.symm)]
            unfold tbB
            rw [e7z 9 (by decide)]
            exact f6
          · rw [M8n z (fun e => oz e.symm)]
            exact S7
        have kp8 : ∀ {m' q'}, kpO n m' kd2 ln2 M2 o q' → kpO n m' kd4 ln5 M8 o q' := fun {m' q'} hq => by
          have k2 : kd2 q' < 8 := by rw [hq.2.2.2.1]; decide
          have ny := ne q' k2
          have nz : q' ≠ z := fun e => by
            have := hq.2.2.2.1
            rw [e, kz2] at this
            exact absurd this (by decide)
          have no : q' ≠ o := fun e => by
            have := hq.2.2.2.1
            rw [e, br2.1.2.2.1] at this
            exact absurd this (by decide)
          exact hq.old ⟨k4 q' ny, by rw [u1 q' ny, f1 q' nz], by rw [M8n q' no, o7 q' ny nz, u2 q' ny, M4o q' ny, f3 q' nz]⟩
        have B8 : brd n kd4 ln5 M8 o := by
          refine hb.gr G8 (by decide) ?_ ?_ (fun m' hm' => ?_)
          · rw [M8o 9 (by decide)]
            rcases br2.2.1 with e | e
            · left
              by_cases e2 : m = 2
              · rw [f9a e2, M1o]
              · exfalso
                rw [if_neg e2] at f9
                have := kp2.2.2.2.2
                omega
            · exact Or.inr (kp8 e)
          · rw [M8o 10 (by decide)]
            rcases br2.2.2.1 with e | e
            · left
              by_cases e2 : m = 2
              · exfalso
                rw [if_pos e2] at f9
                have := kp2.2.2.2.2
                omega
              · rw [f10a e2, M1o]
            · exact Or.inr (kp8 e)
          · by_cases e : m' = m
            · right
              rw [e, M85]
              exact ⟨q, T8⟩
            · exact Or.inl (M85' m' e)
        unfold wX0_prepare_61
        rw [← e8]
        refine ⟨by omega, (k4 z yz).trans kz2, h z kd4 ln5 M8 G8 B8 M85 (by omega) ⟨q, T8⟩ M85' (fun e => by rw [M8o 9 (by decide), f9a e, M1o]) (fun e => by rw [M8o 10 (by decide), f10a e, M1o]) (Or.inl ?_)⟩
        rw [M8o 9 (by decide), M8o 10 (by decide), f9]
        have := kp2.2.2.2.2
        omega
      by_cases e2 : m = 2
      · obtain ⟨q0', t0, t1, t2, t3, t4⟩ := tab 0 (Or.inl rfl) e2
        obtain ⟨q1', s0, s1, s2, s3, s4⟩ := tab 1 (Or.inr rfl) e2
        rw [← ez0] at t0 t1 t2 t4
        rw [← ez1] at s0 s1 s2 s4
        exact sX3_work (q0 := q0') (q1 := q1') hN hm u3 u4 u5 capr (fun e => if_pos e) u6 (fun _ => ⟨t0, s0, ⟨t1.1, t1.2, s1.1, s1.2⟩, ⟨t2.1, t2.2, s2.1, s2.2⟩, ⟨t3, t4, s3, s4⟩⟩) after
      · exact sX3_work (q0 := 0) (q1 := 0) hN hm u3 u4 u5 capr (fun e => absurd e e2) u6 (fun e => absurd e e2) after
    exact ⟨by omega, by omega, fin rfl rfl⟩
end PR
