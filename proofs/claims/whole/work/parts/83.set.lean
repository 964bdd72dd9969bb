/-! THE MAKER: a list of the keys that are settled, in order -/
section MK
variable {kd : gKd} {ln : gLn} {M : gM} {o q z y n m w b k t : Int}
/-- where a maker stands -/
def mkC (n m : Int) (kd : gKd) (ln : gLn) (M : gM) (o q z y : Int) : Prop := tbC n m kd ln M o q z ∧ (kd z = 5 ∧ z ≠ 0) ∧ (M y 0 (-1) = o ∧ M y 2 (-1) = q ∧ M y 3 (-1) = z ∧ M y 4 (-1) = m ∧ ln y 5 = ((cN (cPb n m) (mAl3 n).toNat : Nat) : Int)) ∧ (y ≠ o ∧ y ≠ q ∧ y ≠ z)
/-- what it changes -/
def mkX (y z : Int) (M M' : gM) : Prop := ∀ (a : Int) (j : Nat), ¬ (a = z ∧ j = 1) → ¬ (a = y ∧ (j = 5 ∨ j = 6)) → M' a j = M a j
theorem mkX.rf : mkX y z M M := fun _ _ _ _ => rfl
theorem mkX.tr {M' M'' : gM} (h : mkX y z M M') (h' : mkX y z M' M'') : mkX y z M M'' := fun a j h1 h2 => (h' a j h1 h2).trans (h a j h1 h2)
theorem mkC.ch {M' : gM} (h : mkC n m kd ln M o q z y) (c : mkX y z M M') : mkC n m kd ln M' o q z y := by
  obtain ⟨⟨⟨a1, a2, a3, a4⟩, ⟨b1, b2, b3, b4⟩, ⟨c1, c2, c3, c4⟩, d1, d2, d3⟩, ⟨e1, e2⟩, ⟨f1, f2, f3, f4, f5⟩, g1, g2, g3⟩ := h
  have eo : M' o = M o := funext fun j => c o j (fun e => d1 e.1.symm) (fun e => g1 e.1.symm)
  have eq : M' q = M q := funext fun j => c q j (fun e => d2 e.1.symm) (fun e => g2 e.1.symm)
  have ez : ∀ j, j ≠ 1 → M' z j = M z j := fun j hj => c z j (fun e => hj e.2) (fun e => g3 e.1.symm)
  have ey : ∀ j, j ≠ 5 → j ≠ 6 → M' y j = M y j := fun j h5 h6 => c y j (fun e => g3 e.1) (fun e => e.2.elim h5 h6)
  refine ⟨⟨⟨a1, by rw [eo]; exact a2, a3, a4⟩, ⟨by rw [eq]; exact b1, b2, by rw [eq]; exact b3, b4⟩, ⟨?_, ?_, ?_, c4⟩, d1, d2, d3⟩, ⟨e1, e2⟩, ⟨?_, ?_, ?_, ?_, f5⟩, g1, g2, g3⟩
  · rw [ez 0 (by decide)]; exact c1
  · rw [ez 2 (by decide)]; exact c2
  · rw [ez 8 (by decide)]; exact c3
  · rw [ey 0 (by decide) (by decide)]; exact f1
  · rw [ey 2 (by decide) (by decide)]; exact f2
  · rw [ey 3 (by decide) (by decide)]; exact f3
  · rw [ey 4 (by decide) (by decide)]; exact f4
/-- the keys L are settled, each with its distance -/
def mkS (n m : Int) (M : gM) (y z : Int) (L : List Nat) : Prop := (∀ K ∈ L, (K : Int) < mAl3 n ∧ cP n m K ∧ 0 ≤ mDk n m K) ∧ L.Nodup ∧ tbV n m (M z) (fun K => if K ∈ L then mDk n m K else -1) ∧ M y 6 (-1) = (L.length : Int) ∧ ∀ (i : Nat) (hi : i < L.length), M y 5 i = cK n m L[i]
abbrev inL (n m : Int) (L : List Nat) (w b k t : Int) : Prop := (mLst n m w b k t).toNat ∈ L
theorem sX3_settle {post : gM → Prop} {far : Int} {L : List Nat} (hN : mN n) (hC : mkC n m kd ln M o q z y) (hS : mkS n m M y z L) (hw : mOn n w) (hb : mOn n b) (hk : mOn n k) (ht : 0 ≤ t ∧ t ≤ 1) (hv : vP n w b) (hf : 0 ≤ far ∧ far ≤ 126) (hd : mLg n m w b k t → ¬ inL n m L w b k t → mDs n m w b k t = far) (h : ∀ M' R, mkS n m M' y z (L ++ R) → mkX y z M M' → (∀ K ∈ R, mDk n m K = far) → (mLg n m w b k t → inL n m (L ++ R) w b k t) → post M') : wX3_settle kd ln post y (cK n m (mLst n m w b k t)) far M := by
  obtain ⟨⟨-, -, ⟨c1, c2, c3, c4⟩, -⟩, ⟨e1, e2⟩, ⟨f1, f2, f3, f4, f5⟩, g1, g2, g3⟩ := id hC
  obtain ⟨s1, s2, s3, s4, s5⟩ := id hS
  obtain ⟨⟨r1, r2, r3⟩, t1, t2⟩ := tb_rd hN s3 hw hb hk ht hv
  have hA := mAl3_r hN
  have csz := cN_le (cPb n m) (mAl3 n).toNat
  have same : (mLg n m w b k t → inL n m L w b k t) → post M := fun g => h M [] (by rw [List.append_nil]; exact hS) mkX.rf (fun K hK => absurd hK (List.not_mem_nil)) (by rw [List.append_nil]; exact g)
  unfold wX3_settle
  rw [f3, c4]
  refine ⟨by omega, fun g => absurd g (by omega), fun _ => ⟨e2, e1, by omega, ⟨r1, r2⟩, fun _ => ⟨fun g => same (fun hL => ?_), fun g => ?_⟩⟩⟩
  · apply Classical.byContradiction
    intro g2
    rw [t1 hL, if_neg g2] at g
    exact g rfl
  · have hL : mLg n m w b k t := Classical.byContradiction fun g2 => by
      rw [t2 g2] at g
      exact absurd g (by decide)
    have hn : ¬ inL n m L w b k t := fun g2 => by
      rw [t1 hL, if_pos g2] at g
      have := (s1 _ g2).2.2
      omega
    obtain ⟨K, k1, k2, k3, k4, k5, -⟩ := lst_cP hN hw hb hk ht hL
    have eK : (mLst n m w b k t).toNat = K := by omega
    have hn' : K ∉ L := by rw [← eK]; exact hn
    have hlt := nodup_lt (p := cPb n m) (N := (mAl3 n).toNat) s2 (fun x hx => ⟨by have := (s1 x hx).1; omega, cPb_t.mpr (s1 x hx).2.1⟩) (K := K) ⟨by omega, cPb_t.mpr k3⟩ hn'
    have dK : mDk n m K = far := by rw [k5]; exact hd hL hn
    rw [f5, s4]
    refine fun _ => ⟨by omega, fun _ => ⟨fun g2 => by omega, fun _ => ?_⟩⟩
    rw [gi2b_id (by omega), k1]
    simp only [gu_rd, g3, false_and, and_false, if_false, s4, Nat.reduceEqDiff]
    refine ⟨by omega, fun _ => ⟨by omega, fun _ => ⟨by omega, h _ [K] ?_ ?_ ?_ ?_⟩⟩⟩
    · refine ⟨fun x hx => ?_, ?_, ?_, ?_, fun i hi => ?_⟩
      · rcases List.mem_append.mp hx with q1 | q1
        · exact s1 x q1
        · rw [List.mem_singleton.mp q1]
          exact ⟨k2, k3, by omega⟩
      · refine List.nodup_append.mpr ⟨s2, by simp, fun a ha b hb e => ?_⟩
        rw [List.mem_singleton.mp hb] at e
        exact hn' (e ▸ ha)
      · have zy : z ≠ y := fun e => g3 e.symm
        have up := tb_up (T' := (gu (gu (gu M z 1 (cK n m K) far) y 5 (L.length : Int) (cK n m K)) y 6 (-1) ((L.length : Int) + 1)) z) (v := far) hN s3 hw hb hk ht hL (fun i => by
          rw [gu_o zy, gu_o zy, gu_v, k1])
        refine tbV_cong hN up (fun x hx hP => ?_)
        rw [eK]
        by_cases g4 : x = K
        · subst g4
          rw [if_pos rfl, if_pos (List.mem_append.mpr (Or.inr (List.mem_singleton.mpr rfl))), dK]
        · rw [if_neg g4]
          by_cases g5 : x ∈ L
          · rw [if_pos g5, if_pos (List.mem_append.mpr (Or.inl g5))]
          · rw [if_neg g5, if_neg (fun g6 => ?_)]
            rcases List.mem_append.mp g6 with g7 | g7
            · exact g5 g7
            · exact g4 (List.mem_singleton.mp g7)
      · rw [gu_s, List.length_append, List.length_singleton]
        push_cast
        rfl
      · rw [gu_k (by decide), gu_v]
        rw [List.length_append, List.length_singleton] at hi
        rcases Nat.lt_or_eq_of_le (Nat.lt_succ_iff.mp hi) with g4 | g4
        · rw [if_neg (by omega), gu_o g3, List.getElem_append_left g4]
          exact s5 i g4
        · rw [if_pos (by omega)]
          subst g4
          rw [List.getElem_append_right (Nat.le_refl _)]
          simp
    · intro a j h1 h2
      funext x
      rw [gu_n (fun e => h2 ⟨e.1, Or.inr e.2.1⟩), gu_n (fun e => h2 ⟨e.1, Or.inl e.2.1⟩), gu_n (fun e => h1 ⟨e.1, e.2.1⟩)]
    · intro x hx
      rw [List.mem_singleton.mp hx]
      exact dK
    · intro _
      show (mLst n m w b k t).toNat ∈ L ++ [K]
      rw [eK]
      exact List.mem_append.mpr (Or.inr (List.mem_singleton.mpr rfl))
theorem sX3_settle_no {post : gM → Prop} {far : Int} (h : post M) : wX3_settle kd ln post y (-1) far M := by
  unfold wX3_settle
  exact ⟨by omega, fun _ => h, fun g => absurd rfl g⟩
/-- all positions nearer than d + 1 are settled, and none farther than it -/
def mkF (n m : Int) (L : List Nat) (d : Nat) : Prop := (∀ K ∈ L, mDk n m K ≤ d + 1) ∧ ∀ K : Nat, (K : Int) < mAl3 n → cP n m K → 0 ≤ mDk n m K → mDk n m K ≤ d → K ∈ L
theorem mkF.ap {L R : List Nat} {d : Nat} (h : mkF n m L d) (hR : ∀ K ∈ R, mDk n m K = (d : Int) + 1) : mkF n m (L ++ R) d := by
  refine ⟨fun K hK => ?_, fun K h1 h2 h3 h4 => List.mem_append.mpr (Or.inl (h.2 K h1 h2 h3 h4))⟩
  rcases List.mem_append.mp hK with g | g
  · exact h.1 K g
  · have := hR K g; omega
theorem inL_at {L : List Nat} {d : Nat} (hN : mN n) (hS : ∀ K ∈ L, (K : Int) < mAl3 n ∧ cP n m K ∧ 0 ≤ mDk n m K) (hF : mkF n m L d) (hw : mOn n w) (hb : mOn n b) (hk : mOn n k) (ht : 0 ≤ t ∧ t ≤ 1) (hL : mLg n m w b k t) (h : inL n m L w b k t) : ∃ e, e ≤ d + 1 ∧ mAtD n m e w b k t := by
  obtain ⟨K, k1, k2, k3, k4, k5, -⟩ := lst_cP hN hw hb hk ht hL
  have eK : (mLst n m w b k t).toNat = K := by omega
  have hK : K ∈ L := by rw [← eK]; exact h
  have a1 := hF.1 K hK
  have a2 := (hS K hK).2.2
  rcases mDs_c n m w b k t with ⟨e, q1, q2⟩ | ⟨q1, q2⟩
  · exact ⟨e, by omega, q1⟩
  · omega
theorem inL_of {L : List Nat} {d e : Nat} (hN : mN n) (hF : mkF n m L d) (hw : mOn n w) (hb : mOn n b) (hk : mOn n k) (ht : 0 ≤ t ∧ t ≤ 1) (he : e ≤ d) (h : mAtD n m e w b k t) : inL n m L w b k t := by
  obtain ⟨K, k1, k2, k3, k4, k5, -⟩ := lst_cP hN hw hb hk ht (mAtD_lg h)
  have eK : (mLst n m w b k t).toNat = K := by omega
  show (mLst n m w b k t).toNat ∈ L
  rw [eK]
  have := mDs_at h
  exact hF.2 K k2 k3 (by omega) (by omega)
theorem noBl {L : List Nat} {d : Nat} (hN : mN n) (hF : mkF n m L d) (hw : mOn n w) (hb : mOn n b) (hk : mOn n k) (ht : 0 ≤ t ∧ t ≤ 1) (h : ¬ inL n m L w b k t) : ¬ mBl n m (d + 1) w b k t := fun ⟨_, e1, e2⟩ => h (inL_of hN hF hw hb hk ht (Nat.lt_succ_iff.mp e1) e2)
end MK
