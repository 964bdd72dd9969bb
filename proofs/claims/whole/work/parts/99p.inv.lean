/-! THE LAW -/
section IV
variable {kd : gKd} {ln : gLn} {M M' : gM} {h r n m w b k t : Int}
def rA (M : gM) (h r : Int) : Prop := ∀ m, (0 ≤ m ∧ m ≤ 2) → (M h 2 m ≠ 0 ↔ M r 3 m ≠ 0)
def rB (M : gM) (h r : Int) : Prop := ∃ (cnt : Nat) (f : Nat → Int) (g : Int), cnt ≤ 36 ∧ hHd r M cnt f g ∧ cho (M h 3 (-1)) M cnt f (fun _ => g)
def rC (M : gM) (h r : Int) : Prop := ∃ pl : Int, (-1 ≤ pl ∧ pl ≤ 97) ∧ M r 26 (-1) = pl ∧ M h 8 (-1) = pl + 1 ∧ ∀ i, 0 ≤ i → i < 5 * (pl + 1) → M h 7 i = M r 27 i
def rD (M : gM) (h r : Int) : Prop := (0 ≤ M r 9 (-1) ∧ M r 9 (-1) ≤ 40) ∧ M h 10 (-1) = M r 9 (-1) ∧ ∀ i, (0 ≤ i ∧ i < 40) → (-128 ≤ M r 8 i ∧ M r 8 i < 128) ∧ M h 9 i = M r 8 i % 256
def rE (M : gM) (h r : Int) : Prop := ∃ z : Nat, z ≤ 13 ∧ M r 11 (-1) = z ∧ M h 12 (-1) = z ∧ ∀ j : Nat, j < z → M h 11 j = M r 10 j ∧ 0 ≤ M r 10 j ∧ M r 10 j < 128
def Inv (n : Int) (kd : gKd) (ln : gLn) (M : gM) (h r : Int) : Prop := mN n ∧ hou n kd ln M h ∧ (kd r = 7 ∧ rLn ln r ∧ rTb n r M) ∧ (rA M h r ∧ rB M h r ∧ rC M h r ∧ rD M h r ∧ rE M h r) ∧ (kd (-1) = 200 ∧ ln (-1) 0 = 1)
theorem rA.eq (q : rA M h r) (e1 : M' h 2 = M h 2) (e2 : M' r 3 = M r 3) : rA M' h r := by unfold rA; rw [e1, e2]; exact q
theorem rB.eq (q : rB M h r) (e1 : M' h 3 = M h 3) (e2 : M' (M h 3 (-1)) = M (M h 3 (-1))) (e3 : ∀ k ∈ [21, 22, 23, 24, 25], M' r k = M r k) : rB M' h r := by
  unfold rB hHd cho
  rw [e1, e2, e3 21 (by decide), e3 22 (by decide), e3 23 (by decide), e3 24 (by decide), e3 25 (by decide)]
  exact q
theorem rC.eq (q : rC M h r) (e1 : M' h 7 = M h 7) (e2 : M' h 8 = M h 8) (e3 : M' r 26 = M r 26) (e4 : M' r 27 = M r 27) : rC M' h r := by unfold rC; rw [e1, e2, e3, e4]; exact q
theorem rD.eq (q : rD M h r) (e1 : M' h 9 = M h 9) (e2 : M' h 10 = M h 10) (e3 : M' r 8 = M r 8) (e4 : M' r 9 = M r 9) : rD M' h r := by unfold rD; rw [e1, e2, e3, e4]; exact q
theorem rE.eq (q : rE M h r) (e1 : M' h 11 = M h 11) (e2 : M' h 12 = M h 12) (e3 : M' r 10 = M r 10) (e4 : M' r 11 = M r 11) : rE M' h r := by unfold rE; rw [e1, e2, e3, e4]; exact q
theorem rTb.er (q : rTb n r M) (e : M' r = M r) : rTb n r M' := by
  unfold rTb rN mFu nmS nmK mT at *
  rw [e]
  exact q
theorem hou.fr (hN : mN n) (hH : hou n kd ln M h) (e : ∀ x, (kd x = 0 ∨ kd x = 2 ∨ kd x = 5) → M' x = M x) (eh : ∀ k ∈ [0, 1, 2, 3, 4, 5, 6], M' h k = M h k) : hou n kd ln M' h := by
  have k0 := (hH.bd hN).1.2.2.1
  rw [hH.2.2.1.1] at k0
  obtain ⟨a1, a2, a3, a4, a5, a6, a7⟩ := hH
  unfold hou
  rw [eh 0 (by decide), eh 1 (by decide), eh 2 (by decide), eh 3 (by decide), eh 4 (by decide), eh 5 (by decide), eh 6 (by decide), e _ (Or.inl k0)]
  exact ⟨a1, a2, a3, fun i hi => (a4 i hi).imp id (fun q => q.old (fun x hx => ⟨rfl, rfl, e x hx⟩)), a5, a6, a7⟩
theorem PT_e (hH : hou n kd ln M h) (e0 : M' h 0 = M h 0) (e : ∀ x, kd x = 0 → M' x = M x) : PT M' h = PT M h := by
  have one : ∀ i, mN i → pt M' h i = pt M h i := fun i hi => by
    unfold pt
    rw [e0]
    by_cases g : M h 0 i = 0
    · rw [if_pos g, if_pos g]
    · rw [if_neg g, if_neg g]
      have k0 := ((hH.2.2.2.1 i hi).resolve_left g).1.2.2.1
      unfold pot pos
      rw [e _ k0]
  unfold PT
  rw [one 4 (by decide), one 5 (by decide), one 6 (by decide), one 7 (by decide), one 8 (by decide)]
theorem Inv.hr (hI : Inv n kd ln M h r) : h ≠ r ∧ (-1 : Int) ≠ h ∧ (-1 : Int) ≠ r ∧ M h 3 (-1) ≠ r ∧ M h 3 (-1) ≠ h ∧ M h 3 (-1) ≠ -1 := by
  obtain ⟨-, hH, ⟨kr, -, -⟩, -, k1, -⟩ := hI
  have kh := hH.1.1
  have kx := hH.2.2.2.2.2.1.1.1
  refine ⟨fun e => ?_, fun e => ?_, fun e => ?_, fun e => ?_, fun e => ?_, fun e => ?_⟩
  · rw [e, kr] at kh; exact absurd kh (by decide)
  · rw [e, kh] at k1; exact absurd k1 (by decide)
  · rw [e, kr] at k1; exact absurd k1 (by decide)
  · rw [e, kr] at kx; exact absurd kx (by decide)
  · rw [e, kh] at kx; exact absurd kx (by decide)
  · rw [e, k1] at kx; exact absurd kx (by decide)
/-- the reference alone has changed, and nothing that is kept -/
theorem Inv.q {l : List Nat} (hI : Inv n kd ln M h r) (c : Ch r l M M') (hl : ∀ k ∈ [1, 2, 3, 4, 5, 6, 7, 8, 9, 10, 11, 21, 22, 23, 24, 25, 26, 27], k ∉ l) : Inv n kd ln M' h r ∧ PT M' h = PT M h := by
  have nn := hI.hr
  obtain ⟨hN, hH, ⟨kr, lr, tr⟩, ⟨a, b, c1, d, e⟩, hk⟩ := hI
  have eh : M' h = M h := c.ot nn.1
  have er : ∀ k ∈ [1, 2, 3, 4, 5, 6, 7, 8, 9, 10, 11, 21, 22, 23, 24, 25, 26, 27], M' r k = M r k := fun k hk => c.at (hl k hk)
  have eB : ∀ x, (kd x = 0 ∨ kd x = 2 ∨ kd x = 5) → M' x = M x := fun x hx => c.ot (fun e => by rw [e, kr] at hx; omega)
  refine ⟨⟨hN, hH.fr hN eB (fun k _ => by rw [eh]), ⟨kr, lr, tr.ch c (fun k hk => hl k (by revert hk; simp; omega))⟩, ⟨a.eq (by rw [eh]) (er 3 (by decide)), b.eq (by rw [eh]) (c.ot nn.2.2.2.1) (fun k hk => er k (by revert hk; simp; omega)), c1.eq (by rw [eh]) (by rw [eh]) (er 26 (by decide)) (er 27 (by decide)), d.eq (by rw [eh]) (by rw [eh]) (er 8 (by decide)) (er 9 (by decide)), e.eq (by rw [eh]) (by rw [eh]) (er 10 (by decide)) (er 11 (by decide))⟩, hk⟩, ?_⟩
  exact PT_e hH (by rw [eh]) (fun x hx => eB x (Or.inl hx))
theorem Inv.f0 {v : Int} (hI : Inv n kd ln M h r) : Inv n kd ln (gu M r 0 (-1) v) h r ∧ PT (gu M r 0 (-1) v) h = PT M h := hI.q (Ch.up (l := [0]) Ch.rf (by decide) _ _) (by decide)
/-- the answer is put away -/
theorem Inv.out {v : Int} (hI : Inv n kd ln M h r) : Inv n kd ln (gu M (-1) 0 0 v) h r ∧ PT (gu M (-1) 0 0 v) h = PT M h := by
  have nn := hI.hr
  obtain ⟨hN, hH, ⟨kr, lr, tr⟩, ⟨a, b, c1, d, e⟩, hk⟩ := hI
  have eo : ∀ x, x ≠ -1 → (gu M (-1) 0 0 v) x = M x := fun x hx => gu_o hx
  have eh := eo h (fun e => nn.2.1 e.symm)
  have er := eo r (fun e => nn.2.2.1 e.symm)
  have eB : ∀ x, (kd x = 0 ∨ kd x = 2 ∨ kd x = 5) → (gu M (-1) 0 0 v) x = M x := fun x hx => eo x (fun e => by rw [e, hk.1] at hx; omega)
  refine ⟨⟨hN, hH.fr hN eB (fun k _ => by rw [eh]), ⟨kr, lr, tr.er er⟩, ⟨a.eq (by rw [eh]) (by rw [er]), b.eq (by rw [eh]) (eo _ nn.2.2.2.2.2) (fun k _ => by rw [er]), c1.eq (by rw [eh]) (by rw [eh]) (by rw [er]) (by rw [er]), d.eq (by rw [eh]) (by rw [eh]) (by rw [er]) (by rw [er]), e.eq (by rw [eh]) (by rw [eh]) (by rw [er]) (by rw [er])⟩, hk⟩, ?_⟩
  exact PT_e hH (by rw [eh]) (fun x hx => eB x (Or.inl hx))
theorem gcmp_self {a : BitVec 64} : gcmp a a = 0 := by
  unfold gcmp lg_cmp
  have : ¬ (gL a > gL a) := Int64.lt_irrefl
  rw [if_neg this, if_pos rfl]
  rfl
/-- what follows a call that may throw -/
def tl (kd : gKd) (ln : gLn) (K : gM → Prop) (c0 c1 r : Int) (M : gM) : Prop := wX7_thrown kd ln (fun c132 M131 => (rng c132 → ((c132 = c0 → ((c0 ≠ 0 → K M131) ∧ (c0 = 0 → ((0 ≤ (0 : Int) ∧ (0 : Int) < ln (-1) 0) ∧ (0 ≤ M131 (-1) 0 0 ∧ M131 (-1) 0 0 < 18446744073709551616 → (((gcmp (BitVec.ofInt 64 (M131 (-1) 0 0)) (BitVec.ofInt 64 c1)) = 0 → K M131) ∧ (¬ ((gcmp (BitVec.ofInt 64 (M131 (-1) 0 0)) (BitVec.ofInt 64 c1)) = 0) → False))))))) ∧ (¬ (c132 = c0) → False)))) r M
theorem tl_ok {K : gM → Prop} {v : Int} (hl : ln (-1) 0 = 1) (h0 : M r 0 (-1) = 0) (ho : M (-1) 0 0 = ((BitVec.ofInt 64 v).toNat : Nat)) (hK : K M) : tl kd ln K 0 v r M := by
  unfold tl wX7_thrown
  rw [h0, hl]
  intro _ _
  rw [ho, ofInt_nat]
  exact ⟨fun _ => ⟨fun g => absurd rfl g, fun _ => ⟨by omega, fun _ => ⟨fun _ => hK, fun g => absurd gcmp_self g⟩⟩⟩, fun g => absurd rfl g⟩
theorem tl_no {K : gM → Prop} {v : Int} (h0 : M r 0 (-1) = 1) (hK : K M) : tl kd ln K 1 v r M := by
  unfold tl wX7_thrown
  rw [h0]
  exact fun _ _ => ⟨fun _ => ⟨fun _ => hK, fun g => absurd g (by decide)⟩, fun g => absurd rfl g⟩
end IV
