section BZ
variable {n : Int} {nn : Nat}
theorem p01 (m : Nat) (hm : m ≠ 2) (d : Nat) : bSem n ((fun _ => 0 : Nat → Nat) d) (fun w b k => m = 2 ∧ mPq n d w b k) := bSem_0 (fun _ _ _ q => hm q.1)
theorem sem01 {m : Nat} (en : (nn : Int) = n) (hN : mN n) (hm : m ≤ 1) (d : Nat) : bSem n (b01 nn m d).2 (fun w b k => mD n m d w b k 1) := (It_all en hN (by omega) (p01 m (by omega)) d).2
theorem bd01 {m d0 : Nat} (en : (nn : Int) = n) (hN : mN n) (hm : m ≤ 1) (h : bEq (b01 nn m d0) (b01 nn m (d0 + 1)) = true) : ∀ d, ∀ w b k t, mOn n w → mOn n b → mOn n k → mD n m d w b k t → mD n m d0 w b k t := st_bd en hN (by omega) (p01 m (by omega)) (fun d hd e => by omega) h
theorem bd2 (en : (nn : Int) = n) (hN : mN n) (h0 : bEq (b01 nn 0 24) (b01 nn 0 (24 + 1)) = true) (h1 : bEq (b01 nn 1 36) (b01 nn 1 (36 + 1)) = true) (h : bEq (b2 nn 60) (b2 nn (60 + 1)) = true) : ∀ d, ∀ w b k t, mOn n w → mOn n b → mOn n k → mD n 2 d w b k t → mD n 2 60 w b k t := by
  refine st_bd (m := 2) (P := fun d => Nat.lor (b01 nn 0 d).2 (b01 nn 1 d).2) en hN (by omega) (fun d => ?_) (fun d hd _ w b k hw hb hk q => ?_) h
  · refine ((sem01 en hN (by omega) d).lor (sem01 en hN (by omega) d)).iff (fun w b k _ _ _ => ?_)
    rw [mPq_D]
    exact ⟨fun q => ⟨rfl, q⟩, fun q => q.2⟩
  · rcases mPq_D.mp q with q | q
    · exact mPq_D.mpr (Or.inl (mD_mono (bd01 (m := 0) en hN (by omega) h0 d w b k 1 hw hb hk q) (by omega)))
    · exact mPq_D.mpr (Or.inr (mD_mono (bd01 (m := 1) en hN (by omega) h1 d w b k 1 hw hb hk q) (by omega)))
theorem bd_of {m : Int} {d0 : Nat} (hd : d0 ≤ 97) (h : ∀ d, ∀ w b k t, mOn n w → mOn n b → mOn n k → mD n m d w b k t → mD n m d0 w b k t) : mBd n m := fun e w b k t hw hb hk q => by
  rcases Nat.lt_or_ge d0 e with g | g
  · exact absurd (h e w b k t hw hb hk q.1) (q.2 d0 g)
  · omega
theorem bd_n (nn : Nat) (en : (nn : Int) = n) (hN : mN n) (h0 : bEq (b01 nn 0 24) (b01 nn 0 (24 + 1)) = true) (h1 : bEq (b01 nn 1 36) (b01 nn 1 (36 + 1)) = true) (h : bEq (b2 nn 60) (b2 nn (60 + 1)) = true) (m : Int) (hm : 0 ≤ m ∧ m ≤ 2) : mBd n m := by
  rcases (show m = 0 ∨ m = 1 ∨ m = 2 by omega) with rfl | rfl | rfl
  · exact bd_of (d0 := 24) (by omega) (bd01 (m := 0) en hN (by omega) h0)
  · exact bd_of (d0 := 36) (by omega) (bd01 (m := 1) en hN (by omega) h1)
  · exact bd_of (d0 := 60) (by omega) (bd2 en hN h0 h1 h)
/-- no distance is greater than 97, on any board -/
theorem mBd_all (hN : mN n) (m : Int) (hm : 0 ≤ m ∧ m ≤ 2) : mBd n m := by
  rcases mN_cases hN with rfl | rfl | rfl | rfl | rfl
  · exact bd_n 4 rfl hN b4_0 b4_1 b4_2 m hm
  · exact bd_n 5 rfl hN b5_0 b5_1 b5_2 m hm
  · exact bd_n 6 rfl hN b6_0 b6_1 b6_2 m hm
  · exact bd_n 7 rfl hN b7_0 b7_1 b7_2 m hm
  · exact bd_n 8 rfl hN b8_0 b8_1 b8_2 m hm
end BZ
