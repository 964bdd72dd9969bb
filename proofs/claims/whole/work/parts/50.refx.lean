/-! TEXTS -/
def pM (u : Int → Int) : Int := if u 4 = 81 then 0 else if u 4 = 82 then 1 else if u 4 = 80 then 2 else -1
def pT (u : Int → Int) : Int := if u 12 = 119 then 0 else if u 12 = 98 then 1 else -1
def pS (n : Int) (u : Int → Int) (i : Int) : Int := if (0 ≤ u i - 97 ∧ u i - 97 < n) ∧ (0 ≤ u (i + 1) - 49 ∧ u (i + 1) - 49 < n) then n * (u (i + 1) - 49) + (u i - 97) else -1
def pF (u : Int → Int) : Prop := u 0 = 75 ∧ u 3 = 32 ∧ u 7 = 32 ∧ u 8 = 107 ∧ u 11 = 32
noncomputable def pV (n : Int) (u : Int → Int) : Int := @ite _ (pF u ∧ mNu n (pM u) (pS n u 1) (pS n u 9) (pS n u 5) (pT u) ∧ mLg n (pM u) (pS n u 1) (pS n u 9) (pS n u 5) (pT u)) (Classical.propDecidable _) (mKey n (pS n u 1) (pS n u 9) (pS n u 5) (pT u) + mAl3 n * pM u) (-1)
theorem pV_t {n : Int} {u : Int → Int} (h : pF u ∧ mNu n (pM u) (pS n u 1) (pS n u 9) (pS n u 5) (pT u) ∧ mLg n (pM u) (pS n u 1) (pS n u 9) (pS n u 5) (pT u)) : pV n u = mKey n (pS n u 1) (pS n u 9) (pS n u 5) (pT u) + mAl3 n * pM u := by
  unfold pV
  rw [if_pos h]
theorem pV_f {n : Int} {u : Int → Int} (h : ¬ (pF u ∧ mNu n (pM u) (pS n u 1) (pS n u 9) (pS n u 5) (pT u) ∧ mLg n (pM u) (pS n u 1) (pS n u 9) (pS n u 5) (pT u))) : pV n u = -1 := by
  unfold pV
  rw [if_neg h]
/-- the text of a position -/
def shB (n m w b k t : Int) (i : Nat) : Int := match i with
  | 0 => 75
  | 1 => 97 + w % n
  | 2 => 49 + w / n
  | 3 => 32
  | 4 => if m = 0 then 81 else if m = 1 then 82 else 80
  | 5 => 97 + k % n
  | 6 => 49 + k / n
  | 7 => 32
  | 8 => 107
  | 9 => 97 + b % n
  | 10 => 49 + b / n
  | 11 => 32
  | _ => if t = 0 then 119 else 98
section RX
variable {kd : gKd} {ln : gLn} {M M0 : gM} {r n m w b k t : Int}
theorem sX7_squareAt {post : Int → gM → Prop} {i : Int} {u : Int → Int} (hN : mN n) (hl : ln r 8 = 40) (hn : M r 1 (-1) = n) (hi : 0 ≤ i ∧ i + 1 < 40) (hu : ∀ i, (0 ≤ i ∧ i < 40) → (-128 ≤ M r 8 i ∧ M r 8 i < 128) ∧ u i = M r 8 i % 256) (h : post (pS n u i) M) : wX7_squareAt kd ln post r i M := by
  obtain ⟨a1, a2⟩ := hu i (by omega)
  obtain ⟨b1, b2⟩ := hu (i + 1) (by omega)
  have no : ¬ ((0 ≤ M r 8 i - 97 ∧ M r 8 i - 97 < n) ∧ (0 ≤ M r 8 (i + 1) - 49 ∧ M r 8 (i + 1) - 49 < n)) → post (-1) M := fun q => by
    unfold pS at h
    rw [if_neg (by omega)] at h
    exact h
  unfold wX7_squareAt
  rw [hl, hn]
  refine ⟨by omega, by omega, fun _ => ?_⟩
  rintro v5 rfl
  refine ⟨by omega, fun _ => ?_⟩
  rintro v9 rfl
  intro _
  refine sX7_in (by omega) (by omega) (by omega) (fun q => fun _ => ⟨fun g => absurd g (by decide), fun _ => ?_⟩) (fun q => fun _ => ⟨fun _ => no (by omega), fun g => absurd rfl g⟩)
  rw [hn]
  intro _
  refine sX7_in (by omega) (by omega) (by omega) (fun q2 => fun _ => ⟨fun g => absurd g (by decide), fun _ => ?_⟩) (fun q2 => fun _ => ⟨fun _ => no (by omega), fun g => absurd rfl g⟩)
  rw [hn]
  intro _
  unfold pS at h
  rw [if_pos (by omega), show u (i + 1) = M r 8 (i + 1) by omega, show u i = M r 8 i by omega] at h
  have e := (mSq_of hN (f := M r 8 i - 97) (r := M r 8 (i + 1) - 49) (by omega) (by omega)).1
  have hS := mSS hN
  exact ⟨by have := e.1; have := e.2; omega, h⟩
theorem sX7_read {post : Int → gM → Prop} {a : Int} {u : Int → Int} (hN : mN n) (hl : rLn ln r) (hn : rN n r M) (ha : rng a) (hz : 0 ≤ M r 9 (-1) ∧ M r 9 (-1) ≤ 40) (hu : ∀ i, (0 ≤ i ∧ i < 40) → (-128 ≤ M r 8 i ∧ M r 8 i < 128) ∧ u i = M r 8 i % 256) (hno : ¬ (0 ≤ a ∧ a ≤ M r 9 (-1)) → post (-2) (gu M r 0 (-1) 0)) (hok : (0 ≤ a ∧ a ≤ M r 9 (-1)) → post (if a = 13 then pV n u else -1) (gu (gu M r 0 (-1) 0) r 9 (-1) 0)) : wX7_read kd ln post r a M := by
  have l8 := hl.2.2.2.2.2.1
  have z0 : (gu M r 0 (-1) 0) r 9 (-1) = M r 9 (-1) := by rw [gu_k (by decide)]
  unfold wX7_read
  rw [z0]
  intro _
  refine sX7_in ha (by omega) (by omega) (fun q => fun _ => ⟨fun _ => ?_, fun g => absurd g (by decide)⟩) (fun q => fun _ => ⟨fun g => absurd rfl g, fun _ => hno q⟩)
  have hp := hok q
  obtain ⟨M2, e2⟩ : ∃ M2, M2 = gu (gu M r 0 (-1) 0) r 9 (-1) 0 := ⟨_, rfl⟩
  rw [← e2] at hp ⊢
  have c2 : Ch r [0, 9] M M2 := by rw [e2]; exact Ch.up (Ch.up Ch.rf (by decide) _ _) (by decide) _ _
  have hn2 := hn.ch c2 (by decide) (by decide)
  have hu2 : ∀ i, (0 ≤ i ∧ i < 40) → (-128 ≤ M2 r 8 i ∧ M2 r 8 i < 128) ∧ u i = M2 r 8 i % 256 := by
    rw [c2.at (show 8 ∉ [0, 9] by decide)]; exact hu
  have ev : ∀ (i c : Int), (0 ≤ i ∧ i < 40) → (0 ≤ c ∧ c < 128) → (M2 r 8 i = c ↔ u i = c) := fun i c hi hc => by
    obtain ⟨a1, a2⟩ := hu2 i hi
    omega
  have hA := mAl3_r hN
  refine ⟨ha, fun q1 => ?_, fun q1 => ?_⟩
  · rw [if_neg q1] at hp; exact hp
  · rw [if_pos q1] at hp
    have bad : ¬ pF u → post (-1) M2 := fun g => by
      rw [pV_f (fun g2 => g g2.1)] at hp
      exact hp
    -- behind the letters
    have t71 : pF u → wX7_read_171 kd ln post r a (pM u) (pT u) M2 := fun hF => by
      unfold wX7_read_171
      refine sX7_squareAt hN l8 hn2.1 (by omega) hu2 fun _ => sX7_squareAt hN l8 hn2.1 (by omega) hu2 fun _ => sX7_squareAt hN l8 hn2.1 (by omega) hu2 fun _ => ?_
      have rs : ∀ i, rng (pS n u i) := fun i => by
        unfold pS
        split
        · next g =>
          have e := (mSq_of hN (f := u i - 97) (r := u (i + 1) - 49) g.1 g.2).1
          have hS := mSS hN
          have := e.1
          have := e.2
          omega
        · omega
      have rm : rng (pM u) := by unfold pM; split <;> (try split) <;> (try split) <;> omega
      have rt : rng (pT u) := by unfold pT; split <;> (try split) <;> omega
      refine sX7_areNumbers hN hn2.2 rm (rs 1) (rs 9) (rs 5) rt (fun g => fun _ => ⟨fun g2 => absurd g2 (by decide), fun _ => ?_⟩) (fun g => fun _ => ⟨fun _ => ?_, fun g2 => absurd rfl g2⟩)
      · refine sX7_legal hN hn2.1 g.1 g.2.1 g.2.2.1 g.2.2.2.1 g.2.2.2.2 (fun g3 => fun _ => ⟨fun _ => ?_, fun g2 => absurd g2 (by decide)⟩) (fun g3 => fun _ => ⟨fun g2 => absurd rfl g2, fun _ => ?_⟩)
        · rw [pV_t ⟨hF, g, g3⟩] at hp
          refine sX7_key hN hn2.2 g.2.1 g.2.2.1 g.2.2.2.1 g.2.2.2.2 fun _ => ?_
          rw [hn2.2]
          have kr := mKey_r hN g.2.1 g.2.2.1 g.2.2.2.1 g.2.2.2.2
          have : mAl3 n * pM u ≤ mAl3 n * 2 := Int.mul_le_mul_of_nonneg_left g.1.2 (by omega)
          have : 0 ≤ mAl3 n * pM u := Int.mul_nonneg (by omega) g.1.1
          refine fun _ => ⟨?_, hp⟩
          show rng (_ + mAl3 n * pM u)
          omega
        · rw [pV_f (fun g2 => g3 g2.2.2)] at hp; exact hp
      · rw [pV_f (fun g2 => g g2.2.1)] at hp; exact hp
    have t37 : pF u → wX7_read_137 kd ln post r a (pM u) M2 := fun hF => by
      have h71 := t71 hF
      unfold pT at h71
      unfold wX7_read_137
      rw [l8]
      have e1 := ev 12 119 (by omega) (by omega)
      have e2 := ev 12 98 (by omega) (by omega)
      refine ⟨by omega, by omega, fun _ => ⟨fun g => ⟨fun g2 => ?_, fun g2 => ?_⟩, fun g => ?_⟩⟩
      · rw [if_neg (fun g3 => g (e1.mpr g3)), if_neg (fun g3 => g2 (e2.mpr g3))] at h71; exact h71
      · rw [if_neg (fun g3 => g (e1.mpr g3)), if_pos (e2.mp g2)] at h71; exact h71
      · rw [if_pos (e1.mp g)] at h71; exact h71
    have f0 := ev 0 75 (by omega) (by omega)
    have f3 := ev 3 32 (by omega) (by omega)
    have f7 := ev 7 32 (by omega) (by omega)
    have f8 := ev 8 107 (by omega) (by omega)
    have f11 := ev 11 32 (by omega) (by omega)
    have m1 := ev 4 81 (by omega) (by omega)
    have m2 := ev 4 82 (by omega) (by omega)
    have m3 := ev 4 80 (by omega) (by omega)
    rw [l8]
    refine ⟨by omega, by omega, fun _ => ⟨fun g => bad (fun g2 => g (f0.mpr g2.1)), fun g0 => ⟨by omega, fun _ => ⟨fun g => bad (fun g2 => g (f3.mpr g2.2.1)), fun g3 => ⟨by omega, fun _ => ⟨fun g => bad (fun g2 => g (f7.mpr g2.2.2.1)), fun g7 => ⟨by omega, fun _ => ⟨fun g => bad (fun g2 => g (f8.mpr g2.2.2.2.1)), fun g8 => ⟨by omega, fun _ => ⟨fun g11 => ⟨by omega, fun _ => ?_⟩, fun g => bad (fun g2 => g (f11.mpr g2.2.2.2.2))⟩⟩⟩⟩⟩⟩⟩⟩⟩⟩
    have hF : pF u := ⟨f0.mp g0, f3.mp g3, f7.mp g7, f8.mp g8, f11.mp g11⟩
    have h37 := t37 hF
    unfold pM at h37
    refine ⟨fun g => ⟨fun g2 => ⟨fun g3 => ?_, fun g3 => ?_⟩, fun g2 => ?_⟩, fun g => ?_⟩
    · rw [if_neg (fun g4 => g (m1.mpr g4)), if_neg (fun g4 => g2 (m2.mpr g4)), if_neg (fun g4 => g3 (m3.mpr g4))] at h37; exact h37
    · rw [if_neg (fun g4 => g (m1.mpr g4)), if_neg (fun g4 => g2 (m2.mpr g4)), if_pos (m3.mp g3)] at h37; exact h37
    · rw [if_neg (fun g4 => g (m1.mpr g4)), if_pos (m2.mp g2)] at h37; exact h37
    · rw [if_pos (m1.mp g)] at h37; exact h37
theorem sX7_tell {post : gM → Prop} {c : Int} {z : Nat} {s : Nat → Int} (hl : ln r 10 = 20) (hz : M r 11 (-1) = z) (hz2 : z < 20) (hc : 0 ≤ c ∧ c < 128) (hs : ∀ i : Nat, i < z → M r 10 i = s i) (e : s z = c) (h : ∀ M', M' r 11 (-1) = ((z + 1 : Nat) : Int) → (∀ i : Nat, i < z + 1 → M' r 10 i = s i) → Ch r [10, 11] M M' → post M') : wX7_tell kd ln post r c M := by
  unfold wX7_tell
  have e11 : ∀ v, (gu M r 10 z v) r 11 (-1) = z := fun v => by rw [gu_k (by decide)]; exact hz
  rw [hl, hz, gi2b_id (by omega), e11]
  refine ⟨by omega, fun _ => ⟨by omega, by omega, fun _ => ⟨by omega, h _ (by rw [gu_s]; omega) (fun i hi => ?_) (Ch.up (Ch.up Ch.rf (by decide) _ _) (by decide) _ _)⟩⟩⟩
  rw [gu_k (by decide), gu_v]
  by_cases g : (i : Int) = z
  · rw [if_pos g, show i = z by omega]; exact e.symm
  · rw [if_neg g]; exact hs i (by omega)
theorem sX7_tellSquare {post : gM → Prop} {a : Int} {z : Nat} {s : Nat → Int} (hN : mN n) (hn : M r 1 (-1) = n) (ha : mOn n a) (hl : ln r 10 = 20) (hz : M r 11 (-1) = z) (hz2 : z + 1 < 20) (hs : ∀ i : Nat, i < z → M r 10 i = s i) (e1 : s z = 97 + a % n) (e2 : s (z + 1) = 49 + a / n) (h : ∀ M', M' r 11 (-1) = ((z + 2 : Nat) : Int) → (∀ i : Nat, i < z + 2 → M' r 10 i = s i) → Ch r [10, 11] M M' → post M') : wX7_tellSquare kd ln post r a M := by
  have e := mSq hN ha
  unfold wX7_tellSquare
  rw [hn]
  refine fun _ => ⟨by omega, sX7_tell hl hz (by omega) (by omega) hs e1 fun M1 a1 a2 a3 => ?_⟩
  rw [a3.at (show 1 ∉ [10, 11] by decide), hn]
  exact fun _ => ⟨by omega, sX7_tell hl a1 (by omega) (by omega) a2 e2 fun M2 b1 b2 b3 => h M2 b1 b2 (a3.tr b3)⟩
theorem sX7_show {post : Int → gM → Prop} (hN : mN n) (hl : rLn ln r) (hn : rN n r M) (hmr : rng m) (hw : rng w) (hb : rng b) (hk : rng k) (ht : rng t) (hok : mNu n m w b k t → mLg n m w b k t → ∀ M', M' r 11 (-1) = 13 → (∀ i : Nat, i < 13 → M' r 10 i = shB n m w b k t i) → M' r 0 (-1) = 0 → Ch r [0, 10, 11] M M' → post 13 M') (hno : ¬ (mNu n m w b k t ∧ mLg n m w b k t) → post (-1) (gu M r 0 (-1) 0)) : wX7_show kd ln post r m w b k t M := by
  have l10 := hl.2.2.2.2.2.2.1
  have c0 : Ch r [0] M (gu M r 0 (-1) 0) := Ch.up Ch.rf (by decide) (-1) 0
  have hn0 := hn.ch c0 (by decide) (by decide)
  unfold wX7_show
  refine sX7_areNumbers hN hn0.2 hmr hw hb hk ht (fun g => fun _ => ⟨fun g2 => absurd g2 (by decide), fun _ => ?_⟩) (fun g => fun _ => ⟨fun _ => hno (fun g3 => g g3.1), fun g2 => absurd rfl g2⟩)
  refine sX7_legal hN hn0.1 g.1 g.2.1 g.2.2.1 g.2.2.2.1 g.2.2.2.2 (fun g3 => fun _ => ⟨fun _ => ?_, fun g2 => absurd g2 (by decide)⟩) (fun g3 => fun _ => ⟨fun g2 => absurd rfl g2, fun _ => hno (fun g4 => g3 g4.2)⟩)
  obtain ⟨n1, n2, n3, n4, n5⟩ := id g
  have up : ∀ {Ma Mb : gM}, Ma r 1 (-1) = n → Ch r [10, 11] Ma Mb → Mb r 1 (-1) = n := fun q1 q2 => by rw [q2.at (show 1 ∉ [10, 11] by decide)]; exact q1
  have cs : Ch r [0, 10, 11] M (gu (gu M r 0 (-1) 0) r 11 (-1) 0) := Ch.up (c0.mo (by decide)) (by decide) _ _
  have zs : (gu (gu M r 0 (-1) 0) r 11 (-1) 0) r 0 (-1) = 0 := by rw [gu_k (by decide), gu_s]
  have ns : (gu (gu M r 0 (-1) 0) r 11 (-1) 0) r 1 (-1) = n := by rw [gu_k (by decide)]; exact hn0.1
  refine sX7_tell (z := 0) (s := shB n m w b k t) l10 gu_s (by omega) (by omega) (fun i hi => absurd hi (Nat.not_lt_zero i)) rfl fun M1 a1 a2 a3 => ?_
  have d1 := up ns a3
  refine sX7_tellSquare (z := 1) (s := shB n m w b k t) hN d1 n2 l10 a1 (by omega) a2 rfl rfl fun M2 b1 b2 b3 => ?_
  have d2 := up d1 b3
  refine sX7_tell (z := 3) (s := shB n m w b k t) l10 b1 (by omega) (by omega) b2 rfl fun M3 c1 c2 c3 => ?_
  have d3 := up d2 c3
  have go : ∀ y : Int, y = shB n m w b k t 4 → (0 ≤ y ∧ y < 128) → wX7_show_79 kd ln post r m w b k t y M3 := fun y ey hy => by
    unfold wX7_show_79
    refine sX7_tell (z := 4) (s := shB n m w b k t) l10 c1 (by omega) hy c2 ey.symm fun M4 e1 e2 e3 => ?_
    have d4 := up d3 e3
    refine sX7_tellSquare (z := 5) (s := shB n m w b k t) hN d4 n4 l10 e1 (by omega) e2 rfl rfl fun M5 f1 f2 f3 => ?_
    have d5 := up d4 f3
    refine sX7_tell (z := 7) (s := shB n m w b k t) l10 f1 (by omega) (by omega) f2 rfl fun M6 g1 g2 g3 => ?_
    have d6 := up d5 g3
    refine sX7_tell (z := 8) (s := shB n m w b k t) l10 g1 (by omega) (by omega) g2 rfl fun M7 h1 h2 h3 => ?_
    have d7 := up d6 h3
    refine sX7_tellSquare (z := 9) (s := shB n m w b k t) hN d7 n3 l10 h1 (by omega) h2 rfl rfl fun M8 i1 i2 i3 => ?_
    have d8 := up d7 i3
    refine sX7_tell (z := 11) (s := shB n m w b k t) l10 i1 (by omega) (by omega) i2 rfl fun M9 j1 j2 j3 => ?_
    have call : Ch r [10, 11] (gu (gu M r 0 (-1) 0) r 11 (-1) 0) M9 := ((((((((a3.tr b3).tr c3).tr e3).tr f3).tr g3).tr h3).tr i3).tr j3)
    have last : ∀ y : Int, y = shB n m w b k t 12 → (0 ≤ y ∧ y < 128) → wX7_show_124 kd ln post r m w b k t y M9 := fun y ey hy => by
      unfold wX7_show_124
      refine sX7_tell (z := 12) (s := shB n m w b k t) l10 j1 (by omega) hy j2 ey.symm fun M10 k1 k2 k3 => ?_
      rw [k1]
      intro _
      refine hok g (by assumption) M10 k1 k2 ?_ (cs.tr ((call.tr k3).mo (by decide)))
      rw [(call.tr k3).at (show 0 ∉ [10, 11] by decide)]
      exact zs
    refine ⟨by omega, fun q => last 98 (by show _ = if t = 0 then (119 : Int) else 98; rw [if_neg q]) (by omega), fun q => last 119 (by show _ = if t = 0 then (119 : Int) else 98; rw [if_pos q]) (by omega)⟩
  refine ⟨by omega, fun q => ⟨fun q1 => go 80 (by show _ = if m = 0 then (81 : Int) else if m = 1 then 82 else 80; rw [if_neg q, if_neg q1]) (by omega), fun q1 => go 82 (by show _ = if m = 0 then (81 : Int) else if m = 1 then 82 else 80; rw [if_neg q, if_pos q1]) (by omega)⟩, fun q => go 81 (by show _ = if m = 0 then (81 : Int) else if m = 1 then 82 else 80; rw [if_pos q]) (by omega)⟩
theorem sX7_out {post : Int → gM → Prop} {i : Int} {z : Nat} {s : Nat → Int} (hl : rLn ln r) (hi : rng i) (hz : M r 11 (-1) = z) (hz2 : z ≤ 20) (hs : ∀ j : Nat, j < z → M r 10 j = s j ∧ 0 ≤ s j ∧ s j < 128) (h : post (if 0 ≤ i ∧ i < z then s i.toNat else -1) (gu M r 0 (-1) 0)) : wX7_out kd ln post r i M := by
  have l10 := hl.2.2.2.2.2.2.1
  unfold wX7_out
  rw [gu_k (show 11 ≠ 0 by decide), hz]
  intro _
  refine sX7_in hi (by omega) (by omega) (fun q => fun _ => ⟨fun g => absurd g (by decide), fun _ => ?_⟩) (fun q => fun _ => ⟨fun _ => ?_, fun g => absurd rfl g⟩)
  · obtain ⟨j, rfl⟩ := Int.eq_ofNat_of_zero_le q.1
    rw [if_pos (by omega), show ((j : Int)).toNat = j by omega] at h
    obtain ⟨a1, a2, a3⟩ := hs j (by omega)
    have e : giand (s j) 255 = s j := by
      rw [giand_n (by omega) (by omega)]
      have := Nat.and_two_pow_sub_one_eq_mod (s j).toNat 8
      rw [show (255 : Int).toNat = 2 ^ 8 - 1 from rfl, this]
      omega
    rw [l10, gu_k (show 10 ≠ 0 by decide), a1, e]
    exact ⟨by omega, by omega, fun _ => ⟨by omega, h⟩⟩
  · rw [if_neg (by omega)] at h; exact h
end RX
