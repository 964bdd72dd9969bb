/-! PAIRS OF KINGS -/
def imF (n g f r : Nat) : Nat := cond (Nat.beq (g % 2) 1) (n - 1 - cond (Nat.beq (g / 4 % 2) 1) r f) (cond (Nat.beq (g / 4 % 2) 1) r f)
def imR (n g f r : Nat) : Nat := cond (Nat.beq (g / 2 % 2) 1) (n - 1 - cond (Nat.beq (g / 4 % 2) 1) f r) (cond (Nat.beq (g / 4 % 2) 1) f r)
def imN (n g a : Nat) : Nat := n * imR n g (a % n) (a / n) + imF n g (a % n) (a / n)
def stB (n w b s : Nat) : Bool := Nat.ble 1 s && (Nat.beq (imN n s w) w && Nat.beq (imN n s b) b)
def stOK (n : Nat) : Bool := Nat.rec true (fun w ih => ih && Nat.rec true (fun b ih2 => ih2 && (Nat.beq w b || Nat.ble (cN (stB n w b) 8) 1)) (n * n)) (n * n)
theorem stOK_all : stOK 4 = true ∧ stOK 5 = true ∧ stOK 6 = true ∧ stOK 7 = true ∧ stOK 8 = true := by decide +kernel
theorem all_rec {p : Nat → Bool} : ∀ {N : Nat}, (Nat.rec true (fun k ih => ih && p k) N : Bool) = true → ∀ k, k < N → p k = true := by
  intro N
  induction N with
  | zero => intro _ k hk; exact absurd hk (Nat.not_lt_zero k)
  | succ N ih =>
    intro h k hk
    have h : ((Nat.rec true (fun k ih => ih && p k) N : Bool) && p N) = true := h
    rw [Bool.and_eq_true] at h
    rcases Nat.lt_or_eq_of_le (Nat.lt_succ_iff.mp hk) with q | q
    · exact ih h.1 k q
    · rw [q]; exact h.2
theorem stOK_le {n w b : Nat} (h : stOK n = true) (hw : w < n * n) (hb : b < n * n) (hwb : w ≠ b) : cN (stB n w b) 8 ≤ 1 := by
  have h1 := all_rec (p := fun w => Nat.rec true (fun b ih2 => ih2 && (Nat.beq w b || Nat.ble (cN (stB n w b) 8) 1)) (n * n)) h w hw
  have h2 := all_rec (p := fun b => (Nat.beq w b || Nat.ble (cN (stB n w b) 8) 1)) h1 b hb
  rw [Bool.or_eq_true] at h2
  rcases h2 with h2 | h2
  · rw [Nat.beq_eq] at h2; exact absurd h2 hwb
  · exact Nat.le_of_ble_eq_true h2
theorem cN_two {p : Nat → Bool} {s s' N : Nat} (h : p s = true) (h' : p s' = true) (hs : s < s') (hN : s' < N) : 2 ≤ cN p N := by
  have a1 := cN_t h
  have a2 := cN_t h'
  have a3 : cN p (s + 1) ≤ cN p s' := cN_mono hs
  have a4 : cN p (s' + 1) ≤ cN p N := cN_mono hN
  omega
section PR
variable {n g h m w b k t a x y : Int}
theorem imN_i {nn gg aa : Nat} (hN : mN (nn : Int)) (hg : gg < 8) (ha : aa < nn * nn) : ((imN nn gg aa : Nat) : Int) = mIm nn gg aa := by
  have ha' : mOn (nn : Int) (aa : Int) := ⟨by omega, by exact_mod_cast ha⟩
  have e := mSq hN ha'
  have h1 : ((aa % nn : Nat) : Int) = (aa : Int) % nn := rfl
  have h2 : ((aa / nn : Nat) : Int) = (aa : Int) / nn := rfl
  have hF : aa % nn < nn := by omega
  have hR : aa / nn < nn := by omega
  have f : ((imF nn gg (aa % nn) (aa / nn) : Nat) : Int) = mIf nn gg ((aa : Int) % nn) ((aa : Int) / nn) := by
    rw [← h1, ← h2]
    clear h1 h2 e
    generalize aa % nn = F at *
    generalize aa / nn = R at *
    unfold imF mIf
    rcases (show gg = 0 ∨ gg = 1 ∨ gg = 2 ∨ gg = 3 ∨ gg = 4 ∨ gg = 5 ∨ gg = 6 ∨ gg = 7 by omega) with rfl | rfl | rfl | rfl | rfl | rfl | rfl | rfl
    · show ((F : Nat) : Int) = (F : Int); rfl
    · show ((nn - 1 - F : Nat) : Int) = (nn : Int) - 1 - (F : Int); omega
    · show ((F : Nat) : Int) = (F : Int); rfl
    · show ((nn - 1 - F : Nat) : Int) = (nn : Int) - 1 - (F : Int); omega
    · show ((R : Nat) : Int) = (R : Int); rfl
    · show ((nn - 1 - R : Nat) : Int) = (nn : Int) - 1 - (R : Int); omega
    · show ((R : Nat) : Int) = (R : Int); rfl
    · show ((nn - 1 - R : Nat) : Int) = (nn : Int) - 1 - (R : Int); omega
  have r : ((imR nn gg (aa % nn) (aa / nn) : Nat) : Int) = mIr nn gg ((aa : Int) % nn) ((aa : Int) / nn) := by
    rw [← h1, ← h2]
    clear h1 h2 e f
    generalize aa % nn = F at *
    generalize aa / nn = R at *
    unfold imR mIr
    rcases (show gg = 0 ∨ gg = 1 ∨ gg = 2 ∨ gg = 3 ∨ gg = 4 ∨ gg = 5 ∨ gg = 6 ∨ gg = 7 by omega) with rfl | rfl | rfl | rfl | rfl | rfl | rfl | rfl
    · show ((R : Nat) : Int) = (R : Int); rfl
    · show ((R : Nat) : Int) = (R : Int); rfl
    · show ((nn - 1 - R : Nat) : Int) = (nn : Int) - 1 - (R : Int); omega
    · show ((nn - 1 - R : Nat) : Int) = (nn : Int) - 1 - (R : Int); omega
    · show ((F : Nat) : Int) = (F : Int); rfl
    · show ((F : Nat) : Int) = (F : Int); rfl
    · show ((nn - 1 - F : Nat) : Int) = (nn : Int) - 1 - (F : Int); omega
    · show ((nn - 1 - F : Nat) : Int) = (nn : Int) - 1 - (F : Int); omega
  unfold imN mIm
  rw [← f, ← r]
  push_cast
  rfl
/-- two kings stay in place in one symmetry at most, but for the first -/
theorem st_one {s s' : Int} (hN : mN n) (hw : mOn n w) (hb : mOn n b) (hwb : w ≠ b) (hs : 1 ≤ s ∧ s < 8) (hs' : 1 ≤ s' ∧ s' < 8) (h1 : mIm n s w = w ∧ mIm n s b = b) (h2 : mIm n s' w = w ∧ mIm n s' b = b) : s = s' := by
  have hall := stOK_all
  have key : ∀ nn : Nat, (nn : Int) = n → stOK nn = true → s = s' := by
    intro nn e hok
    subst e
    obtain ⟨wn, rfl⟩ := Int.eq_ofNat_of_zero_le hw.1
    obtain ⟨bn, rfl⟩ := Int.eq_ofNat_of_zero_le hb.1
    obtain ⟨sn, rfl⟩ := Int.eq_ofNat_of_zero_le (show 0 ≤ s by omega)
    obtain ⟨sn', rfl⟩ := Int.eq_ofNat_of_zero_le (show 0 ≤ s' by omega)
    have hw2 : wn < nn * nn := by have := hw.2; exact_mod_cast this
    have hb2 : bn < nn * nn := by have := hb.2; exact_mod_cast this
    have le := stOK_le hok hw2 hb2 (by omega)
    have p : ∀ q : Nat, 1 ≤ q → q < 8 → mIm nn q wn = wn → mIm nn q bn = bn → stB nn wn bn q = true := fun q q1 q2 q3 q4 => by
      unfold stB
      rw [← imN_i hN q2 hw2] at q3
      rw [← imN_i hN q2 hb2] at q4
      simp only [Bool.and_eq_true, Nat.ble_eq, Nat.beq_eq]
      exact ⟨q1, by omega, by omega⟩
    have p1 := p sn (by omega) (by omega) h1.1 h1.2
    have p2 := p sn' (by omega) (by omega) h2.1 h2.2
    rcases Nat.lt_trichotomy sn sn' with q | q | q
    · have := cN_two p1 p2 q (show sn' < 8 by omega); omega
    · omega
    · have := cN_two p2 p1 q (show sn < 8 by omega); omega
  rcases mN_cases hN with e | e | e | e | e
  · exact key 4 e.symm hall.1
  · exact key 5 e.symm hall.2.1
  · exact key 6 e.symm hall.2.2.1
  · exact key 7 e.symm hall.2.2.2.1
  · exact key 8 e.symm hall.2.2.2.2
/-- so two symmetries at most bring two kings to the same squares -/
theorem im_two {g1 g2 g3 : Int} (hN : mN n) (hw : mOn n w) (hb : mOn n b) (hwb : w ≠ b) (h1 : g8r g1) (h2 : g8r g2) (h3 : g8r g3) (e2 : mIm n g1 w = mIm n g2 w ∧ mIm n g1 b = mIm n g2 b) (e3 : mIm n g1 w = mIm n g3 w ∧ mIm n g1 b = mIm n g3 b) (n12 : g1 ≠ g2) (n13 : g1 ≠ g3) : g2 = g3 := by
  have r : ∀ g : Int, g8r g → g8r (gc (gi g1) g) := fun g hg => (gc_r (m := 0) (gi_r (m := 0) ⟨h1, fun e => absurd e (by decide)⟩) ⟨hg, fun e => absurd e (by decide)⟩).1
  have gr : g8r (gi g1) := (gi_r (m := 0) ⟨h1, fun e => absurd e (by decide)⟩).1
  have st : ∀ g : Int, g8r g → mIm n g1 w = mIm n g w ∧ mIm n g1 b = mIm n g b → mIm n (gc (gi g1) g) w = w ∧ mIm n (gc (gi g1) g) b = b := fun g hg e => by
    rw [← im_gc hN gr hg hw, ← im_gc hN gr hg hb, ← e.1, ← e.2]
    exact ⟨im_ig hN h1 hw, im_ig hN h1 hb⟩
  have inj : ∀ g g' : Int, g8r g → g8r g' → gc (gi g1) g = gc (gi g1) g' → g = g' := by
    have key : ∀ a g g' : Fin 8, gc (gi ((a : Nat) : Int)) ((g : Nat) : Int) = gc (gi ((a : Nat) : Int)) ((g' : Nat) : Int) → g = g' := by decide +kernel
    intro g g' hg hg' e
    have := key ⟨g1.toNat, by omega⟩ ⟨g.toNat, by omega⟩ ⟨g'.toNat, by omega⟩ (by
      simp only
      rw [show ((g1.toNat : Nat) : Int) = g1 by omega, show ((g.toNat : Nat) : Int) = g by omega, show ((g'.toNat : Nat) : Int) = g' by omega]
      exact e)
    have := congrArg Fin.val this
    simp only at this
    omega
  have self : gc (gi g1) g1 = 0 := by
    rcases g_c h1 with rfl | rfl | rfl | rfl | rfl | rfl | rfl | rfl <;> decide
  have nz : ∀ g : Int, g8r g → g1 ≠ g → 1 ≤ gc (gi g1) g ∧ gc (gi g1) g < 8 := fun g hg ne => by
    have q := r g hg
    refine ⟨?_, q.2⟩
    rcases Int.lt_or_eq_of_le q.1 with q2 | q2
    · omega
    · exact absurd (inj g1 g h1 hg (by rw [self]; exact q2)) ne
  exact inj g2 g3 h2 h3 (st_one hN hw hb hwb (nz g2 h2 n12) (nz g3 h3 n13) (st g2 h2 e2) (st g3 h3 e3))
end PR
