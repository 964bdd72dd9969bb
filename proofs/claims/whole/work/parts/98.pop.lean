/-! HOW MANY BITS -/
def p1 (M a : Nat) : Nat := a - ((a / 2) &&& M)
def p2 (M a : Nat) : Nat := (a &&& M) + ((a / 4) &&& M)
def p3 (M a : Nat) : Nat := (a + a / 16) &&& M
theorem and_by {x y q B M c : Nat} (hB : B < 256) (hc : c < 256) (ex : x = 256 * q + B) (ey : y = 256 * M + c) : x &&& y = 256 * (q &&& M) + (B &&& c) := by
  subst ex ey
  have h1 : (256 * q + B &&& 256 * M + c) % 2 ^ 8 = B &&& c := by
    rw [Nat.and_mod_two_pow, show (256 * q + B) % 2 ^ 8 = B by omega, show (256 * M + c) % 2 ^ 8 = c by omega]
  have h2 : (256 * q + B &&& 256 * M + c) / 2 ^ 8 = q &&& M := by
    rw [Nat.and_div_two_pow, show (256 * q + B) / 2 ^ 8 = q by omega, show (256 * M + c) / 2 ^ 8 = M by omega]
  have := Nat.div_add_mod (256 * q + B &&& 256 * M + c) (2 ^ 8)
  rw [h1, h2] at this
  omega
theorem p1_by {q B M : Nat} (hB : B < 256) : p1 (256 * M + 85) (256 * q + B) = 256 * p1 M q + p1 85 B := by
  have k : ∀ (B : Fin 256) (r : Fin 2), (128 * (r : Nat) + (B : Nat) / 2) &&& 85 = ((B : Nat) / 2) &&& 85 := by decide +kernel
  have k1 : 128 * (q % 2) + B / 2 &&& 85 = B / 2 &&& 85 := k ⟨B, hB⟩ ⟨q % 2, by omega⟩
  have a1 := and_by (x := (256 * q + B) / 2) (y := 256 * M + 85) (q := q / 2) (B := 128 * (q % 2) + B / 2) (M := M) (c := 85) (by omega) (by decide) (by omega) rfl
  have l1 : (q / 2) &&& M ≤ q := Nat.le_trans Nat.and_le_left (by omega)
  have l2 : (B / 2) &&& 85 ≤ B := Nat.le_trans Nat.and_le_left (by omega)
  unfold p1
  rw [a1, k1]
  omega
theorem p2_by {q B M : Nat} (hB : B < 256) : p2 (256 * M + 51) (256 * q + B) = 256 * p2 M q + p2 51 B := by
  have k : ∀ (B : Fin 256) (r : Fin 4), (64 * (r : Nat) + (B : Nat) / 4) &&& 51 = ((B : Nat) / 4) &&& 51 := by decide +kernel
  have k1 : 64 * (q % 4) + B / 4 &&& 51 = B / 4 &&& 51 := k ⟨B, hB⟩ ⟨q % 4, by omega⟩
  have a0 := and_by (x := 256 * q + B) (y := 256 * M + 51) (q := q) (B := B) (M := M) (c := 51) hB (by decide) rfl rfl
  have a1 := and_by (x := (256 * q + B) / 4) (y := 256 * M + 51) (q := q / 4) (B := 64 * (q % 4) + B / 4) (M := M) (c := 51) (by omega) (by decide) (by omega) rfl
  unfold p2
  rw [a0, a1, k1]
  omega
theorem p3_by {q B M : Nat} (h1 : B % 16 ≤ 4) (h2 : B / 16 ≤ 4) (h3 : q % 16 ≤ 4) : p3 (256 * M + 15) (256 * q + B) = 256 * p3 M q + p3 15 B := by
  have e15 : ∀ x : Nat, x &&& 15 = x % 16 := fun x => Nat.and_two_pow_sub_one_eq_mod x 4
  have a1 := and_by (x := 256 * q + B + (256 * q + B) / 16) (y := 256 * M + 15) (q := q + q / 16) (B := B + 16 * (q % 16) + B / 16) (M := M) (c := 15) (by omega) (by decide) (by omega) rfl
  unfold p3
  rw [a1, e15, e15]
  omega
/-- a byte's bits -/
def pb (B : Nat) : Nat := p3 15 (p2 51 (p1 85 B))
theorem pb_c : ∀ B : Fin 256, cN (fun i => (B : Nat).testBit i) 8 = pb B ∧ p1 85 (B : Nat) < 256 ∧ p2 51 (p1 85 (B : Nat)) % 16 ≤ 4 ∧ p2 51 (p1 85 (B : Nat)) / 16 ≤ 4 ∧ pb B ≤ 8 := by decide +kernel
def m5 : Nat → Nat
  | 0 => 0
  | i + 1 => 256 * m5 i + 85
def m3 : Nat → Nat
  | 0 => 0
  | i + 1 => 256 * m3 i + 51
def mf : Nat → Nat
  | 0 => 0
  | i + 1 => 256 * mf i + 15
/-- bytes side by side -/
def hB (c : Nat → Nat) : Nat → Nat
  | 0 => 0
  | i + 1 => c 0 + 256 * hB (fun j => c (j + 1)) i
theorem hB_add : ∀ (i : Nat) (c d : Nat → Nat), hB c i + hB d i = hB (fun j => c j + d j) i := by
  intro i
  induction i with
  | zero => intro c d; rfl
  | succ i ih =>
    intro c d
    have := ih (fun j => c (j + 1)) (fun j => d (j + 1))
    show c 0 + 256 * hB (fun j => c (j + 1)) i + (d 0 + 256 * hB (fun j => d (j + 1)) i) = c 0 + d 0 + 256 * hB (fun j => c (j + 1) + d (j + 1)) i
    omega
theorem hB_div {c : Nat → Nat} (i : Nat) (h : c 0 < 256) : hB c (i + 1) / 256 = hB (fun j => c (j + 1)) i := by
  show (c 0 + 256 * hB (fun j => c (j + 1)) i) / 256 = _
  omega
theorem hB_mod {c : Nat → Nat} (i : Nat) : hB c (i + 1) % 128 = c 0 % 128 := by
  show (c 0 + 256 * hB (fun j => c (j + 1)) i) % 128 = _
  omega
theorem hB_lt : ∀ (i : Nat) (c : Nat → Nat), (∀ j, c j < 256) → hB c i < 256 ^ i := by
  intro i
  induction i with
  | zero => intro c _; exact Nat.one_pos
  | succ i ih =>
    intro c h
    have h1 := ih (fun j => c (j + 1)) (fun j => h (j + 1))
    have h2 := h 0
    show c 0 + 256 * hB (fun j => c (j + 1)) i < 256 ^ (i + 1)
    rw [Nat.pow_succ]
    omega
theorem hB_ext : ∀ (i : Nat) (c : Nat → Nat), c i = 0 → hB c (i + 1) = hB c i := by
  intro i
  induction i with
  | zero => intro c h; show c 0 + 256 * 0 = 0; omega
  | succ i ih =>
    intro c h
    show c 0 + 256 * hB (fun j => c (j + 1)) (i + 1) = c 0 + 256 * hB (fun j => c (j + 1)) i
    rw [ih (fun j => c (j + 1)) h]
theorem p_all : ∀ (i a : Nat), a < 256 ^ i → p2 (m3 i) (p1 (m5 i) a) % 16 ≤ 4 ∧ ∃ c : Nat → Nat, (∀ j, c j ≤ 8) ∧ (∀ j, i ≤ j → c j = 0) ∧ (∀ j, j < i → c j = cN (fun s => (a / 256 ^ j).testBit s) 8) ∧ p3 (mf i) (p2 (m3 i) (p1 (m5 i) a)) = hB c i := by
  intro i
  induction i with
  | zero =>
    intro a h
    have : a = 0 := by simpa using h
    subst this
    exact ⟨by decide, fun _ => 0, fun _ => Nat.zero_le _, fun _ _ => rfl, fun j hj => absurd hj (Nat.not_lt_zero j), by decide⟩
  | succ i ih =>
    intro a h
    have hq : a / 256 < 256 ^ i := by
      rw [Nat.pow_succ, Nat.mul_comm] at h
      exact Nat.div_lt_of_lt_mul h
    obtain ⟨h1, c, h2, h0, h3, h4⟩ := ih (a / 256) hq
    have hlt : a % 256 < 256 := Nat.mod_lt _ (by decide)
    obtain ⟨b1, b2, b3, b4, b5⟩ := pb_c ⟨a % 256, hlt⟩
    have b1 : cN (fun i => (a % 256).testBit i) 8 = pb (a % 256) := b1
    have b2 : p1 85 (a % 256) < 256 := b2
    have b3 : p2 51 (p1 85 (a % 256)) % 16 ≤ 4 := b3
    have b4 : p2 51 (p1 85 (a % 256)) / 16 ≤ 4 := b4
    have b5 : pb (a % 256) ≤ 8 := b5
    have e : a = 256 * (a / 256) + a % 256 := by omega
    have s1 : p1 (m5 (i + 1)) a = 256 * p1 (m5 i) (a / 256) + p1 85 (a % 256) := by
      rw [show m5 (i + 1) = 256 * m5 i + 85 from rfl, ← p1_by hlt, ← e]
    have s2 : p2 (m3 (i + 1)) (p1 (m5 (i + 1)) a) = 256 * p2 (m3 i) (p1 (m5 i) (a / 256)) + p2 51 (p1 85 (a % 256)) := by
      rw [s1, show m3 (i + 1) = 256 * m3 i + 51 from rfl, p2_by b2]
    have s3 : p3 (mf (i + 1)) (p2 (m3 (i + 1)) (p1 (m5 (i + 1)) a)) = 256 * p3 (mf i) (p2 (m3 i) (p1 (m5 i) (a / 256))) + pb (a % 256) := by
      rw [s2, show mf (i + 1) = 256 * mf i + 15 from rfl, p3_by b3 b4 h1]
      rfl
    refine ⟨by rw [s2]; omega, fun j => match j with | 0 => pb (a % 256) | j + 1 => c j, fun j => ?_, fun j hj => ?_, fun j hj => ?_, ?_⟩
    · cases j with
      | zero => exact b5
      | succ j => exact h2 j
    · cases j with
      | zero => omega
      | succ j => exact h0 j (by omega)
    · cases j with
      | zero =>
        show pb (a % 256) = _
        rw [← b1]
        refine cN_congr (fun s hs => ?_)
        rw [Nat.pow_zero, Nat.div_one, show (256 : Nat) = 2 ^ 8 by decide, Nat.testBit_mod_two_pow]
        simp [hs]
      | succ j =>
        show c j = _
        rw [h3 j (by omega)]
        refine cN_congr (fun s hs => ?_)
        rw [Nat.pow_succ, Nat.mul_comm, ← Nat.div_div_eq_div_mul]
    · rw [s3, h4]
      show 256 * hB c i + pb (a % 256) = pb (a % 256) + 256 * hB c i
      omega
theorem mk_v : m5 8 = 6148914691236517205 ∧ m3 8 = 3689348814741910323 ∧ mf 8 = 1085102592571150095 := by decide +kernel
theorem pop_sum {c : Nat → Nat} {v3 v4 v5 v6 : Nat} (C : ∀ j, c j ≤ 8) (Z : ∀ j, 8 ≤ j → c j = 0) (n3 : v3 = hB c 8) (n4 : v4 = (v3 + v3 / 256) % 18446744073709551616) (n5 : v5 = (v4 + v4 / 65536) % 18446744073709551616) (n6 : v6 = (v5 + v5 / 4294967296) % 18446744073709551616) : v6 % 128 = c 0 + c 1 + c 2 + c 3 + c 4 + c 5 + c 6 + c 7 := by
  have C' : ∀ j, c j < 256 := fun j => by have := C j; omega
  obtain ⟨d, ed⟩ : ∃ d : Nat → Nat, d = fun j => c j + c (j + 1) := ⟨_, rfl⟩
  have dv : ∀ j, d j = c j + c (j + 1) := fun j => by rw [ed]
  have D : ∀ j, d j < 256 := fun j => by have := C j; have := C (j + 1); rw [dv]; omega
  obtain ⟨e, ee⟩ : ∃ e : Nat → Nat, e = fun j => d j + d (j + 2) := ⟨_, rfl⟩
  have ev : ∀ j, e j = d j + d (j + 2) := fun j => by rw [ee]
  have E : ∀ j, e j < 256 := fun j => by
    have := C j; have := C (j + 1); have := C (j + 2); have := C (j + 2 + 1)
    rw [ev, dv, dv]; omega
  have p8 : (256 : Nat) ^ 8 = 18446744073709551616 := by decide
  have a4 : v4 = hB d 8 := by
    have h1 : v3 / 256 = hB (fun j => c (j + 1)) 8 := by
      rw [n3, hB_div 7 (C' 0), hB_ext 7 (fun j => c (j + 1)) (Z 8 (by omega))]
    have h2 := hB_lt 8 d D
    rw [p8] at h2
    rw [n4, h1, n3, hB_add, ed]
    rw [ed] at h2
    exact Nat.mod_eq_of_lt h2
  have a5 : v5 = hB e 8 := by
    have h1 : v4 / 65536 = hB (fun j => d (j + 2)) 8 := by
      rw [show (65536 : Nat) = 256 * 256 by decide, ← Nat.div_div_eq_div_mul, a4, hB_div 7 (D 0), hB_div (c := fun j => d (j + 1)) 6 (D 1)]
      rw [hB_ext 7 (fun j => d (j + 2)) (by show d (7 + 2) = 0; rw [dv, Z _ (by omega), Z _ (by omega)]), hB_ext 6 (fun j => d (j + 2)) (by show d (6 + 2) = 0; rw [dv, Z _ (by omega), Z _ (by omega)])]
    have h2 := hB_lt 8 e E
    rw [p8] at h2
    rw [n5, h1, a4, hB_add, ee]
    rw [ee] at h2
    exact Nat.mod_eq_of_lt h2
  have h1 : v5 / 4294967296 = hB (fun j => e (j + 4)) 4 := by
    rw [show (4294967296 : Nat) = 256 * 256 * 256 * 256 by decide, ← Nat.div_div_eq_div_mul, ← Nat.div_div_eq_div_mul, ← Nat.div_div_eq_div_mul, a5, hB_div 7 (E 0), hB_div (c := fun j => e (j + 1)) 6 (E 1), hB_div (c := fun j => e (j + 2)) 5 (E 2), hB_div (c := fun j => e (j + 3)) 4 (E 3)]
  have m1 : v5 % 128 = e 0 % 128 := by rw [a5]; exact hB_mod 7
  have m2 : v5 / 4294967296 % 128 = e 4 % 128 := by rw [h1]; exact hB_mod 3
  have e0 : e 0 = c 0 + c 1 + (c 2 + c 3) := by rw [ev, dv, dv]
  have e4 : e 4 = c 4 + c 5 + (c 6 + c 7) := by rw [ev, dv, dv]
  have m3 : v6 % 128 = (v5 + v5 / 4294967296) % 128 := by
    rw [n6, show (18446744073709551616 : Nat) = 128 * 144115188075855872 by decide, Nat.mod_mul_right_mod]
  have C0 := C 0; have C1 := C 1; have C2 := C 2; have C3 := C 3; have C4 := C 4; have C5 := C 5; have C6 := C 6; have C7 := C 7
  rw [m3, Nat.add_mod, m1, m2, e0, e4]
  clear m3 m1 m2 h1 a4 a5 n3 n4 n5 n6
  omega
