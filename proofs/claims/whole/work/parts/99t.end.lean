section LE
variable {h r sL : Int} {sx : Int → Int}
theorem law_loop (hL : sL ≤ 3072) (hL0 : 0 ≤ sL) (hsx : ∀ i, rng (sx i)) : ∀ (j i : Nat) (n : Int) (kd : gKd) (ln : gLn) (M : gM) (c s : Nat), Inv n kd ln M h r → i ≤ 512 → c ≤ 200 + 101 * i → s + PT M h ≤ 7000000 + 6 * i → 512 - i < j → wL_law_23 601024 7293033 sL sx j kd ln c s h r (-1) (6 * (i : Int)) M := by
  intro j
  induction j with
  | zero => intro i n kd ln M c s h1 h2 h3 h4 h5; omega
  | succ j ih =>
    intro i n kd ln M c s hI h2 h3 h4 h5
    have kh := hI.2.1.1.1
    have kr := hI.2.2.1.1
    have ko := hI.2.2.2.2
    have r31 := rng_of (gI (sx (6 * (i : Int))) &&& gI 31)
    have l0 : 0 ≤ ln (-1) 0 := by rw [ko.2]; decide
    unfold wL_law_23
    refine ⟨kh, kr, ko.1, l0, by omega, by omega, by omega, fun _ => trivial, fun g => ?_⟩
    have x6 : 6 * (i : Int) + 6 ≤ sL := by omega
    have i511 : i + 1 ≤ 512 := by omega
    -- the next call
    have nx : ∀ (n' : Int) (kd' : gKd) (ln' : gLn) (M' : gM) (c' s' : Nat), Inv n' kd' ln' M' h r → c' ≤ c + 101 → s' + PT M' h ≤ s + PT M h + 6 → wL_law_1246 601024 7293033 sL sx (wL_law_23 601024 7293033 sL sx j) kd' ln' c' s' h r (-1) (6 * (i : Int)) M' := fun n' kd' ln' M' c' s' J a b => by
      unfold wL_law_1246
      rw [J.2.2.2.2.2]
      refine ⟨J.2.1.1.1, J.2.2.1.1, J.2.2.2.2.1, by omega, by omega, ?_⟩
      have := ih (i + 1) n' kd' ln' M' c' s' J i511 (by omega) (by omega) (by omega)
      rw [show 6 * ((i + 1 : Nat) : Int) = 6 * (i : Int) + 6 by omega] at this
      exact this
    have one : ∀ M', Inv n kd ln M' h r → PT M' h = PT M h → wL_law_1246 601024 7293033 sL sx (wL_law_23 601024 7293033 sL sx j) kd ln c s h r (-1) (6 * (i : Int)) M' := fun M' J e => nx n kd ln M' c s J (by omega) (by omega)
    have thr : ∀ M', Inv n kd ln M' h r → PT M' h = PT M h → (kd h = 6 ∧ kd r = 7 ∧ kd (-1) = 200 ∧ 0 ≤ ln (-1) 0 ∧ (c + 1 ≤ 601024 ∧ s + 6 ≤ 7293033) ∧ wL_law_1246 601024 7293033 sL sx (wL_law_23 601024 7293033 sL sx j) kd ln (c + 1) (s + 6) h r (-1) (6 * (i : Int)) M') := fun M' J e => ⟨kh, kr, ko.1, by omega, by omega, nx n kd ln M' (c + 1) (s + 6) J (by omega) (by omega)⟩
    have bk : ∀ (n' : Int) (kd' : gKd) (ln' : gLn) (M' : gM) (c' s' : Nat), Inv n' kd' ln' M' h r → c' ≤ c + 100 → s' + PT M' h ≤ s + PT M h → wL_law_1246 601024 7293033 sL sx (wL_law_23 601024 7293033 sL sx j) kd' ln' c' s' h r (-1) (6 * (i : Int)) M' := fun n' kd' ln' M' c' s' J a b => nx n' kd' ln' M' c' s' J (by omega) (by omega)
    have s1 := hsx (6 * (i : Int) + 1)
    have s2 := hsx (6 * (i : Int) + 2)
    have s3 := hsx (6 * (i : Int) + 3)
    have s4 := hsx (6 * (i : Int) + 4)
    have s5 := hsx (6 * (i : Int) + 5)
    have q1 : 0 ≤ 6 * (i : Int) + 1 ∧ 6 * (i : Int) + 1 < sL := by omega
    have q2 : 0 ≤ 6 * (i : Int) + 2 ∧ 6 * (i : Int) + 2 < sL := by omega
    have q3 : 0 ≤ 6 * (i : Int) + 3 ∧ 6 * (i : Int) + 3 < sL := by omega
    have q4 : 0 ≤ 6 * (i : Int) + 4 ∧ 6 * (i : Int) + 4 < sL := by omega
    have q5 : 0 ≤ 6 * (i : Int) + 5 ∧ 6 * (i : Int) + 5 < sL := by omega
    have cc : c + 1 ≤ 601024 ∧ s + 6 ≤ 7293033 := by omega
    refine ⟨by omega, fun _ => ⟨r31, fun _ => one M hI rfl, fun _ => ⟨q1, fun _ => ?_⟩, fun _ => ⟨q1, fun _ => ?_⟩, fun _ => ⟨q1, fun _ => ⟨q2, fun _ => ⟨q3, fun _ => ⟨q4, fun _ => ⟨q5, fun _ => ?_⟩⟩⟩⟩⟩, fun _ => ⟨q1, fun _ => ⟨q2, fun _ => ⟨q3, fun _ => ⟨q4, fun _ => ⟨q5, fun _ => ?_⟩⟩⟩⟩⟩, fun _ => ⟨q1, fun _ => ⟨q2, fun _ => ⟨q3, fun _ => ⟨q4, fun _ => ⟨q5, fun _ => ⟨cc, ?_⟩⟩⟩⟩⟩⟩, fun _ => ⟨q1, fun _ => ⟨q2, fun _ => ⟨q3, fun _ => ⟨q4, fun _ => ⟨q5, fun _ => ⟨cc, ?_⟩⟩⟩⟩⟩⟩, fun _ => ⟨q1, fun _ => ⟨q2, fun _ => ?_⟩⟩, fun _ => ⟨q1, fun _ => ⟨q2, fun _ => ⟨q3, fun _ => ⟨q4, fun _ => ⟨q5, fun _ => ⟨cc, ?_⟩⟩⟩⟩⟩⟩, fun _ => ⟨q1, fun _ => ⟨q2, fun _ => ?_⟩⟩, fun _ => ⟨q1, fun _ => ⟨q2, fun _ => ⟨q3, fun _ => ⟨q4, fun _ => ⟨q5, fun _ => ⟨cc, ?_⟩⟩⟩⟩⟩⟩, fun _ => ⟨q1, fun _ => ⟨q2, fun _ => ⟨q3, fun _ => ⟨cc, ?_⟩⟩⟩⟩, fun _ => ⟨q1, fun _ => ⟨q2, fun _ => ⟨q3, fun _ => ⟨cc, ?_⟩⟩⟩⟩, fun _ => ⟨q1, fun _ => ⟨q2, fun _ => ⟨q3, fun _ => ⟨cc, ?_⟩⟩⟩⟩, fun _ => ⟨q1, fun _ => ⟨q2, fun _ => ⟨q3, fun _ => ⟨q4, fun _ => ⟨q5, fun _ => ?_⟩⟩⟩⟩⟩, fun _ => ⟨q1, fun _ => ?_⟩, fun _ => ⟨q1, fun _ => ⟨q2, fun _ => ⟨q3, fun _ => ⟨q4, fun _ => ⟨q5, fun _ => ?_⟩⟩⟩⟩⟩, fun _ => ⟨q1, fun _ => ?_⟩⟩⟩
    · exact cs_board (mc := 601024) (ms := 7293033) (K := fun kd' ln' c' s' M' => wL_law_1246 601024 7293033 sL sx (wL_law_23 601024 7293033 sL sx j) kd' ln' c' s' h r (-1) (6 * (i : Int)) M') hI s1 (by omega) (by omega) bk
    · exact cs_make (mc := 601024) (ms := 7293033) (K := fun kd' ln' c' s' M' => wL_law_1246 601024 7293033 sL sx (wL_law_23 601024 7293033 sL sx j) kd' ln' c' s' h r (-1) (6 * (i : Int)) M') hI s1 (by omega) (by omega) bk
    · exact cs_isLegal (K := fun M' => wL_law_1246 601024 7293033 sL sx (wL_law_23 601024 7293033 sL sx j) kd ln c s h r (-1) (6 * (i : Int)) M') hI s1 s2 s3 s4 s5 one
    · exact cs_moves (K := fun M' => wL_law_1246 601024 7293033 sL sx (wL_law_23 601024 7293033 sL sx j) kd ln c s h r (-1) (6 * (i : Int)) M') hI s1 s2 s3 s4 s5 one
    · have T := cs_distance (K := fun M' => wL_law_421 601024 7293033 sL sx (wL_law_23 601024 7293033 sL sx j) kd ln (c + 1) (s + 6) h r (-1) (6 * (i : Int)) M') hI s1 s2 s3 s4 s5 (fun M' J e => by unfold wL_law_421; exact thr M' J e)
      unfold tl at T
      exact T
    · have T := cs_best (K := fun M' => wL_law_525 601024 7293033 sL sx (wL_law_23 601024 7293033 sL sx j) kd ln (c + 1) (s + 6) h r (-1) (6 * (i : Int)) M') hI s1 s2 s3 s4 s5 (fun M' J e => by unfold wL_law_525; exact thr M' J e)
      unfold tl at T
      exact T
    · exact cs_move (K := fun M' => wL_law_1246 601024 7293033 sL sx (wL_law_23 601024 7293033 sL sx j) kd ln c s h r (-1) (6 * (i : Int)) M') hI s1 s2 one
    · have T := cs_line (K := fun M' => wL_law_666 601024 7293033 sL sx (wL_law_23 601024 7293033 sL sx j) kd ln (c + 1) (s + 6) h r (-1) (6 * (i : Int)) M') hI s1 s2 s3 s4 s5 (fun M' J e => by unfold wL_law_666; exact thr M' J e)
      unfold tl at T
      exact T
    · exact cs_ply (K := fun M' => wL_law_1246 601024 7293033 sL sx (wL_law_23 601024 7293033 sL sx j) kd ln c s h r (-1) (6 * (i : Int)) M') hI s1 s2 one
    · have T := cs_number (K := fun M' => wL_law_807 601024 7293033 sL sx (wL_law_23 601024 7293033 sL sx j) kd ln (c + 1) (s + 6) h r (-1) (6 * (i : Int)) M') hI s1 s2 s3 s4 s5 (fun M' J e => by unfold wL_law_807; exact thr M' J e)
      unfold tl at T
      exact T
    · have T := cs_position (K := fun M' => wL_law_887 601024 7293033 sL sx (wL_law_23 601024 7293033 sL sx j) kd ln (c + 1) (s + 6) h r (-1) (6 * (i : Int)) M') hI s1 s2 s3 (fun M' J e => by unfold wL_law_887; exact thr M' J e)
      unfold tl at T
      exact T
    · have T := cs_count (K := fun M' => wL_law_967 601024 7293033 sL sx (wL_law_23 601024 7293033 sL sx j) kd ln (c + 1) (s + 6) h r (-1) (6 * (i : Int)) M') hI s1 s2 s3 (fun M' J e => by unfold wL_law_967; exact thr M' J e)
      unfold tl at T
      exact T
    · have T := cs_longest (K := fun M' => wL_law_1047 601024 7293033 sL sx (wL_law_23 601024 7293033 sL sx j) kd ln (c + 1) (s + 6) h r (-1) (6 * (i : Int)) M') hI s1 s2 s3 (fun M' J e => by unfold wL_law_1047; exact thr M' J e)
      unfold tl at T
      exact T
    · exact cs_feed (K := fun M' => wL_law_1246 601024 7293033 sL sx (wL_law_23 601024 7293033 sL sx j) kd ln c s h r (-1) (6 * (i : Int)) M') hI s1 s2 s3 s4 s5 one
    · exact cs_read (K := fun M' => wL_law_1246 601024 7293033 sL sx (wL_law_23 601024 7293033 sL sx j) kd ln c s h r (-1) (6 * (i : Int)) M') hI s1 one
    · exact cs_show (K := fun M' => wL_law_1246 601024 7293033 sL sx (wL_law_23 601024 7293033 sL sx j) kd ln c s h r (-1) (6 * (i : Int)) M') hI s1 s2 s3 s4 s5 one
    · exact cs_out (K := fun M' => wL_law_1246 601024 7293033 sL sx (wL_law_23 601024 7293033 sL sx j) kd ln c s h r (-1) (6 * (i : Int)) M') hI s1 one
end LE
