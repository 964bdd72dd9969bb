section BK
variable {kd : gKd} {ln : gLn} {M : gM} {o q z y n m w b k t : Int}
theorem sq_e {p : Int → Prop} {a : BitVec 64} {x : Int} (hN : mN n) (h : sq n a p) (ha : a = 0) (hx : mOn n x) : ¬ p x := fun g => by
  have e := mSq hN hx
  have := (h x.toNat (by omega)).mpr (by rw [show ((x.toNat : Nat) : Int) = x by omega]; exact ⟨hx, g⟩)
  rw [ha] at this
  simp at this
theorem kb_old {L R R' : List Nat} (h : inL n m (L ++ R) w b k t) : inL n m (L ++ (R ++ R')) w b k t := by
  unfold inL at *
  rw [← List.append_assoc]
  exact List.mem_append.mpr (Or.inl h)
theorem kb_R {R R' : List Nat} {v : Int} (h : ∀ K ∈ R, mDk n m K = v) (h' : ∀ K ∈ R', mDk n m K = v) : ∀ K ∈ R ++ R', mDk n m K = v := fun K hK => (List.mem_append.mp hK).elim (h K) (h' K)
theorem sX3_takeKingBack {post : gM → Prop} {L : List Nat} {d : Nat} (hN : mN n) (hm : 0 ≤ m ∧ m ≤ 2) (hC : mkC n m kd ln M o q z y) (hS : mkS n m M y z L) (hF : mkF n m L d) (hd : d ≤ 125) (hw : mOn n w) (hb : mOn n b) (hk : mOn n k) (hA : mAtD n m d w b k 1) (h : ∀ M' R, mkS n m M' y z (L ++ R) → mkX y z M M' → (∀ K ∈ R, mDk n m K = (d : Int) + 1) → (∀ x, mOn n x → mWk n x b k w → mLg n m x b k 0 → inL n m (L ++ R) x b k 0) → post M') : wX3_takeKingBack kd ln post y w b k ((d : Int) + 1) M := by
  have hl := mAtD_lg hA
  have hC0 := hC
  obtain ⟨⟨⟨a1, a2, a3, a4⟩, -, -, -⟩, -, ⟨f1, f2, f3, f4, f5⟩, -⟩ := hC0
  have loop : ∀ (j s : Nat) (a : BitVec 64) (pp : Int → Prop) (M' : gM) (R : List Nat), sq n a pp → (∀ x, mOn n x → pp x → (s : Int) ≤ x ∧ mWk n w b k x) → mkS n m M' y z (L ++ R) → mkX y z M M' → (∀ K ∈ R, mDk n m K = (d : Int) + 1) → (∀ x, mOn n x → mWk n w b k x → mLg n m x b k 0 → pp x ∨ inL n m (L ++ R) x b k 0) → 64 < j + s → wX3_takeKingBack_12 kd ln post y w b k ((d : Int) + 1) j a M' := by
    intro j
    induction j with
    | zero =>
      intro s a pp M' R h1 h2 h3 h4 h5 h6 h7
      exfalso
      sorry
    | succ j ih => sorry
  unfold wX3_takeKingBack
  rw [f1]
  refine ⟨a3, sX0_whiteTargets hN a1 a2 hw hb hk fun c hc => ⟨66, loop 66 0 c _ M [] hc (fun x hx g => ⟨by have := hx.1; omega, g⟩) (by rw [List.append_nil]; exact hS) mkX.rf (fun K hK => absurd hK (List.not_mem_nil)) (fun x _ g _ => Or.inl g) (by omega)⟩⟩
end BK
