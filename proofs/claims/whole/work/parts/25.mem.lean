/-! MEMORY THAT CHANGES: of one owner's slots those of a list alone. -/
def Ch (r : Int) (l : List Nat) (M M' : gM) : Prop := ∀ (o : Int) (k : Nat), (o ≠ r ∨ k ∉ l) → M' o k = M o k
theorem Ch.rf {r : Int} {l : List Nat} {M : gM} : Ch r l M M := fun _ _ _ => rfl
theorem Ch.tr {r : Int} {l : List Nat} {M M' M'' : gM} (h : Ch r l M M') (h' : Ch r l M' M'') : Ch r l M M'' := fun o k q => (h' o k q).trans (h o k q)
theorem Ch.up {r : Int} {l : List Nat} {M M' : gM} (h : Ch r l M M') {k : Nat} (hk : k ∈ l) (i x : Int) : Ch r l M (gu M' r k i x) := fun o j q => by
  rw [← h o j q]
  funext z
  refine gu_n (fun e => ?_)
  rcases q with q | q
  · exact q e.1
  · rw [e.2.1] at q; exact q hk
theorem Ch.mo {r : Int} {l l' : List Nat} {M M' : gM} (h : Ch r l M M') (hl : ∀ k ∈ l, k ∈ l') : Ch r l' M M' := fun o k q => h o k (q.imp id (fun q2 q3 => q2 (hl k q3)))
theorem Ch.at {r : Int} {l : List Nat} {M M' : gM} (h : Ch r l M M') {k : Nat} (hk : k ∉ l) : M' r k = M r k := h r k (Or.inr hk)
theorem Ch.ot {r : Int} {l : List Nat} {M M' : gM} (h : Ch r l M M') {o : Int} (ho : o ≠ r) : M' o = M o := funext fun k => h o k (Or.inl ho)
theorem gu_o {M : gM} {o o' : Int} {k : Nat} {i x : Int} (h : o' ≠ o) : gu M o k i x o' = M o' := by
  funext j z
  exact gu_n (fun e => h e.1)
theorem gu_k {M : gM} {o : Int} {k k' : Nat} {i x : Int} (h : k' ≠ k) : gu M o k i x o k' = M o k' := by
  funext z
  exact gu_n (fun e => h e.2.1)
theorem gu_i {M : gM} {o : Int} {k : Nat} {i i' x : Int} (h : i' ≠ i) : gu M o k i x o k i' = M o k i' := gu_n (fun e => h e.2.2)
theorem gu_v {M : gM} {o : Int} {k : Nat} {i i' x : Int} : gu M o k i x o k i' = if i' = i then x else M o k i' := by
  unfold gu
  simp
/-! A SET IN ORDER: two sequences that rise and hold the same are one. -/
def sIn (cnt : Nat) (f : Nat → Int) (p : Int → Prop) : Prop := (∀ i j, i < j → j < cnt → f i < f j) ∧ ∀ c, p c ↔ ∃ i, i < cnt ∧ f i = c
theorem sIn_uniq {a b : Nat} {f g : Nat → Int} {p : Int → Prop} (hf : sIn a f p) (hg : sIn b g p) : a = b ∧ ∀ i, i < a → f i = g i := by
  have key : ∀ {a b : Nat} {f g : Nat → Int}, sIn a f p → sIn b g p → ∀ i, i < a → i < b ∧ f i = g i := by
    intro a b f g hf hg i
    induction i using Nat.strongRecOn with
    | _ i ih =>
      intro hi
      obtain ⟨j, hj, ej⟩ := (hg.2 (f i)).mp ((hf.2 (f i)).mpr ⟨i, hi, rfl⟩)
      have h1 : i ≤ j := by
        rcases Nat.lt_or_ge j i with q | q
        · exfalso
          have h2 := (ih j q (by omega)).2
          have h3 := hf.1 j i q hi
          omega
        · exact q
      have hib : i < b := by omega
      refine ⟨hib, ?_⟩
      obtain ⟨k, hk, ek⟩ := (hf.2 (g i)).mp ((hg.2 (g i)).mpr ⟨i, hib, rfl⟩)
      have h2 : i ≤ k := by
        rcases Nat.lt_or_ge k i with q | q
        · exfalso
          have h2 := (ih k q (by omega)).2
          have h3 := hg.1 k i q hib
          omega
        · exact q
      have h3 : g i ≤ g j := by
        rcases Nat.lt_or_eq_of_le h1 with q | q
        · exact Int.le_of_lt (hg.1 i j q hj)
        · rw [q]; exact Int.le_refl _
      have h4 : f i ≤ f k := by
        rcases Nat.lt_or_eq_of_le h2 with q | q
        · exact Int.le_of_lt (hf.1 i k q hk)
        · rw [q]; exact Int.le_refl _
      omega
  refine ⟨?_, fun i hi => (key hf hg i hi).2⟩
  rcases Nat.lt_trichotomy a b with q | q | q
  · have := (key hg hf a q).1; omega
  · exact q
  · have := (key hf hg b q).1; omega
theorem sIn_0 {f : Nat → Int} {p : Int → Prop} (h : ∀ c, ¬ p c) : sIn 0 f p := ⟨fun i j _ q => absurd q (Nat.not_lt_zero j), fun c => ⟨fun q => absurd q (h c), fun ⟨i, q, _⟩ => absurd q (Nat.not_lt_zero i)⟩⟩
theorem sIn_iff {cnt : Nat} {f : Nat → Int} {p q : Int → Prop} (h : sIn cnt f p) (e : ∀ c, p c ↔ q c) : sIn cnt f q := ⟨h.1, fun c => (e c).symm.trans (h.2 c)⟩
/-- one more, at place k -/
theorem sIn_ins {cnt : Nat} {f : Nat → Int} {p : Int → Prop} (h : sIn cnt f p) {k : Nat} {c : Int} (hk : k ≤ cnt) (hlo : ∀ i, i < k → f i < c) (hhi : ∀ i, k ≤ i → i < cnt → c < f i) : sIn (cnt + 1) (fun i => if i < k then f i else if i = k then c else f (i - 1)) (fun x => p x ∨ x = c) := by
  constructor
  · intro i j hij hj
    dsimp only
    split
    · next h1 =>
      split
      · next h2 => exact h.1 i j hij (by omega)
      · next h2 =>
        split
        · exact hlo i h1
        · next h3 => exact Int.lt_trans (hlo i h1) (hhi (j - 1) (by omega) (by omega))
    · next h1 =>
      rw [if_neg (show ¬ j < k by omega)]
      split
      · next h2 => rw [if_neg (show ¬ j = k by omega)]; exact hhi (j - 1) (by omega) (by omega)
      · next h2 => rw [if_neg (show ¬ j = k by omega)]; exact h.1 (i - 1) (j - 1) (by omega) (by omega)
  · intro x
    constructor
    · rintro (q | q)
      · obtain ⟨i, hi, e⟩ := (h.2 x).mp q
        rcases Nat.lt_or_ge i k with h1 | h1
        · exact ⟨i, by omega, by dsimp only; rw [if_pos h1]; exact e⟩
        · exact ⟨i + 1, by omega, by dsimp only; rw [if_neg (by omega), if_neg (by omega)]; exact e⟩
      · exact ⟨k, by omega, by dsimp only; rw [if_neg (by omega), if_pos rfl]; exact q.symm⟩
    · rintro ⟨i, hi, e⟩
      dsimp only at e
      split at e
      · next h1 => exact Or.inl ((h.2 x).mpr ⟨i, by omega, e⟩)
      · next h1 =>
        split at e
        · exact Or.inr e.symm
        · next h2 => exact Or.inl ((h.2 x).mpr ⟨i - 1, by omega, e⟩)
