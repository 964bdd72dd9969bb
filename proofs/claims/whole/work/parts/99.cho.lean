/-! CHOICES -/
def cho (x : Int) (M : gM) (cnt : Nat) (f : Nat → Int) (v : Int → Int) : Prop := M x 0 (-1) = cnt ∧ ∀ i : Nat, i < cnt → M x 1 (4 * (i : Int)) = cF (f i) ∧ M x 1 (4 * (i : Int) + 1) = cT (f i) ∧ M x 1 (4 * (i : Int) + 2) = cB (f i) ∧ M x 1 (4 * (i : Int) + 3) = v (f i)
section CH
variable {kd : gKd} {ln : gLn} {M : gM} {x : Int}
theorem sX1_add {post : gM → Prop} {cnt : Nat} {a1 a2 a3 a4 : Int} (hl : ln x 1 = 144) (h0 : M x 0 (-1) = cnt) (h36 : cnt < 36) (r1 : rng a1) (r2 : rng a2) (r3 : rng a3) (r4 : rng a4) (h : ∀ M', M' x 0 (-1) = ((cnt + 1 : Nat) : Int) → (∀ i, M' x 1 i = if i = 4 * (cnt : Int) then a1 else if i = 4 * (cnt : Int) + 1 then a2 else if i = 4 * (cnt : Int) + 2 then a3 else if i = 4 * (cnt : Int) + 3 then a4 else M x 1 i) → Ch x [0, 1] M M' → post M') : wX1_add kd ln post x a1 a2 a3 a4 M := by
  unfold wX1_add
  rw [h0, hl]
  refine fun _ => ⟨fun _ v4 e4 => ?_, fun g => by omega⟩
  simp only [gu_rd, Nat.reduceEqDiff, false_and, and_false, if_false, h0]
  refine ⟨by omega, by omega, r1, by omega, r2, by omega, r3, by omega, r4, fun _ => ⟨by omega, h _ ?_ (fun i => ?_) ?_⟩⟩
  · rw [gu_s]; push_cast; rfl
  · rw [gu_k (by decide), gu_v, gu_v, gu_v, gu_v, e4]
    by_cases g0 : i = 4 * (cnt : Int)
    · rw [if_neg (by omega), if_neg (by omega), if_neg (by omega), if_pos (by omega), if_pos g0]
    · rw [if_neg g0]
      by_cases g1 : i = 4 * (cnt : Int) + 1
      · rw [if_neg (by omega), if_neg (by omega), if_pos (by omega), if_pos g1]
      · rw [if_neg g1]
        by_cases g2 : i = 4 * (cnt : Int) + 2
        · rw [if_neg (by omega), if_pos (by omega), if_pos g2]
        · rw [if_neg g2]
          by_cases g3 : i = 4 * (cnt : Int) + 3
          · rw [if_pos (by omega), if_pos g3]
          · rw [if_neg (by omega), if_neg (by omega), if_neg (by omega), if_neg (by omega), if_neg g3]
  · exact Ch.up (Ch.up (Ch.up (Ch.up (Ch.up Ch.rf (by decide) _ _) (by decide) _ _) (by decide) _ _) (by decide) _ _) (by decide) _ _
/-- one more, behind all others -/
theorem sX1_addc {post : gM → Prop} {cnt tot : Nat} {f F : Nat → Int} {Q T : Int → Prop} {c a1 a2 a3 a4 : Int} {v : Int → Int} (hl : ln x 1 = 144) (hT : sIn tot F T) (h36 : tot ≤ 36) (hs : sIn cnt f Q) (hQ : ∀ y, Q y → T y) (hc : T c) (hlt : ∀ y, Q y → y < c) (hch : cho x M cnt f v) (e1 : a1 = cF c) (e2 : a2 = cT c) (e3 : a3 = cB c) (e4 : a4 = v c) (r1 : rng a1) (r2 : rng a2) (r3 : rng a3) (r4 : rng a4) (h : ∀ M' f', sIn (cnt + 1) f' (fun y => Q y ∨ y = c) → cho x M' (cnt + 1) f' v → Ch x [0, 1] M M' → (∀ i, 4 * (cnt : Int) + 3 < i → M' x 1 i = M x 1 i) → post M') : wX1_add kd ln post x a1 a2 a3 a4 M := by
  have ap := sIn_app hs hlt
  have le := sIn_sub ap hT (fun y q => q.elim (hQ y) (fun e => e ▸ hc))
  refine sX1_add hl hch.1 (by omega) r1 r2 r3 r4 (fun M' m1 m2 m3 => h M' _ ap ⟨m1, fun i hi => ?_⟩ m3 (fun i hi => by rw [m2, if_neg (by omega), if_neg (by omega), if_neg (by omega), if_neg (by omega)]))
  dsimp only
  by_cases g : i < cnt
  · obtain ⟨s1, s2, s3, s4⟩ := hch.2 i g
    rw [if_pos g, m2, m2, m2, m2]
    rw [if_neg (by omega), if_neg (by omega), if_neg (by omega), if_neg (by omega), if_neg (by omega), if_neg (by omega), if_neg (by omega), if_neg (by omega), if_neg (by omega), if_neg (by omega), if_neg (by omega), if_neg (by omega), if_neg (by omega), if_neg (by omega), if_neg (by omega), if_neg (by omega)]
    exact ⟨s1, s2, s3, s4⟩
  · have ei : i = cnt := by omega
    subst ei
    rw [if_neg g, if_pos rfl, m2, m2, m2, m2]
    rw [if_pos rfl, if_neg (by omega), if_pos rfl, if_neg (by omega), if_neg (by omega), if_pos rfl, if_neg (by omega), if_neg (by omega), if_neg (by omega), if_pos rfl]
    exact ⟨e1, e2, e3, e4⟩
theorem cF_r {c : Int} (h : 0 ≤ c ∧ c < 32768) : (0 ≤ cF c ∧ cF c < 64) ∧ (0 ≤ cT c ∧ cT c < 64) ∧ (-1 ≤ cB c ∧ cB c < 8) := by
  unfold cF cT cB
  omega
theorem sX1_keep {post : gM → Prop} {cnt : Nat} {f : Nat → Int} {Q : Int → Prop} {v : Int → Int} {g : Int} (hl : ln x 1 = 144) (h36 : cnt ≤ 36) (hs : sIn cnt f Q) (hch : cho x M cnt f v) (hr : ∀ c, Q c → 0 ≤ c ∧ c < 32768) (hg : rng g) (h : ∀ M' q f', sIn q f' (fun c => Q c ∧ v c = g) → cho x M' q f' (fun _ => g) → q ≤ 36 → Ch x [0, 1] M M' → post M') : wX1_keep kd ln post x g M := by
  have loop : ∀ (j k q : Nat) (f' : Nat → Int) (M' : gM), k ≤ cnt → q ≤ k → sIn q f' (fun c => (∃ i, i < k ∧ f i = c) ∧ v c = g) → cho x M' q f' (fun _ => g) → (∀ i : Nat, k ≤ i → i < cnt → M' x 1 (4 * (i : Int)) = cF (f i) ∧ M' x 1 (4 * (i : Int) + 1) = cT (f i) ∧ M' x 1 (4 * (i : Int) + 2) = cB (f i) ∧ M' x 1 (4 * (i : Int) + 3) = v (f i)) → Ch x [0, 1] M M' → cnt - k < j → wX1_keep_12 kd ln post x g j cnt k M' := by
    intro j
    induction j with
    | zero => intro k q f' M' h1 h2 h3 h4 h5 h6 h7; omega
    | succ j ih =>
      intro k q f' M' h1 h2 h3 h4 h5 h6 h7
      unfold wX1_keep_12 wX1_keep_67
      rw [hl]
      refine ⟨by omega, by omega, fun z => ?_, fun z v6 e6 => ?_⟩
      · have hk : k = cnt := by omega
        subst hk
        refine h M' q f' (sIn_iff h3 (fun c => ?_)) h4 (by omega) h6
        rw [hs.2 c]
      · obtain ⟨s1, s2, s3, s4⟩ := h5 k (Nat.le_refl _) (by omega)
        have hk : Q (f k) := (hs.2 _).mpr ⟨k, by omega, rfl⟩
        obtain ⟨r1, r2, r3⟩ := cF_r (hr _ hk)
        rw [e6, show (k : Int) * 4 + 3 = 4 * (k : Int) + 3 by omega, show (k : Int) * 4 + 0 = 4 * (k : Int) by omega, show (k : Int) * 4 + 1 = 4 * (k : Int) + 1 by omega, show (k : Int) * 4 + 2 = 4 * (k : Int) + 2 by omega, s1, s2, s3, s4]
        refine ⟨by omega, by omega, fun _ => ⟨hg, fun z2 => ?_, fun z2 => ⟨by omega, fun _ => ⟨by omega, fun _ => ⟨by omega, fun _ => ?_⟩⟩⟩⟩⟩
        · have := ih (k + 1) q f' M' (by omega) (by omega) (sIn_iff h3 (fun c => ⟨fun ⟨⟨i, i1, i2⟩, i3⟩ => ⟨⟨i, by omega, i2⟩, i3⟩, fun ⟨⟨i, i1, i2⟩, i3⟩ => ⟨⟨i, ?_, i2⟩, i3⟩⟩)) h4 (fun i i1 i2 => h5 i (by omega) i2) h6 (by omega)
          · push_cast at this
            exact this
          · have : i ≠ k := fun e => z2 (by rw [← e, i2]; exact i3)
            omega
        · refine sX1_addc (T := Q) (F := f) (tot := cnt) (c := f k) (v := fun _ => g) hl hs h36 h3 (fun y ⟨⟨i, i1, i2⟩, _⟩ => (hs.2 y).mpr ⟨i, by omega, i2⟩) hk (fun y ⟨⟨i, i1, i2⟩, _⟩ => by rw [← i2]; exact hs.1 i k i1 (by omega)) h4 rfl rfl rfl rfl (by omega) (by omega) (by omega) hg (fun M'' f'' t1 t2 t3 t4 => ?_)
          have := ih (k + 1) (q + 1) f'' M'' (by omega) (by omega) (sIn_iff t1 (fun c => ⟨fun z3 => ?_, fun ⟨⟨i, i1, i2⟩, i3⟩ => ?_⟩)) t2 (fun i i1 i2 => ?_) (h6.tr t3) (by omega)
          · push_cast at this
            exact this
          · rcases z3 with ⟨⟨i, i1, i2⟩, i3⟩ | z3
            · exact ⟨⟨i, by omega, i2⟩, i3⟩
            · exact ⟨⟨k, by omega, z3.symm⟩, by rw [z3]; exact z2⟩
          · by_cases e : i = k
            · right; rw [← i2, e]
            · exact Or.inl ⟨⟨i, by omega, i2⟩, i3⟩
          · rw [t4 _ (by omega), t4 _ (by omega), t4 _ (by omega), t4 _ (by omega)]
            exact h5 i (by omega) i2
  unfold wX1_keep
  rw [hch.1]
  intro _ v2 e2
  rw [e2]
  refine ⟨cnt + 1, ?_⟩
  have := loop (cnt + 1) 0 0 (fun _ => 0) (gu M x 0 (-1) 0) (by omega) (by omega) (sIn_0 (fun c ⟨⟨i, i1, _⟩, _⟩ => absurd i1 (Nat.not_lt_zero i))) ⟨by rw [gu_s]; rfl, fun i hi => absurd hi (Nat.not_lt_zero i)⟩ (fun i _ hi => by rw [gu_k (by decide)]; exact hch.2 i hi) (Ch.up Ch.rf (by decide) _ _) (by omega)
  exact this
theorem sX1_tell {post : Int → gM → Prop} {cnt : Nat} {f : Nat → Int} {g kk what : Int} (hl : ln x 1 = 144) (h36 : cnt ≤ 36) (hch : cho x M cnt f (fun _ => g)) (hk : rng kk) (hw : rng what) (h : post (if 0 ≤ kk ∧ kk < cnt then (if what = 0 then cF (f kk.toNat) else if what = 1 then cT (f kk.toNat) else if what = 2 then cB (f kk.toNat) else if what = 3 then g else -1) else -1) M) : wX1_tell kd ln post x kk what M := by
  unfold wX1_tell wX1_tell_21
  rw [hch.1, hl]
  refine ⟨hk, fun q => ?_, fun q _ => ⟨fun q1 => ?_, fun q1 => ?_⟩⟩
  · rw [if_neg (by omega)] at h; exact h
  · rw [if_neg (by omega)] at h; exact h
  · rw [if_pos (by omega)] at h
    obtain ⟨s1, s2, s3, s4⟩ := hch.2 kk.toNat (by omega)
    rw [show ((kk.toNat : Nat) : Int) = kk by omega] at s1 s2 s3 s4
    refine ⟨hw, fun q2 => ?_, fun q2 => ⟨fun q3 => ⟨by omega, by omega, fun _ => ?_⟩, fun q3 => ?_⟩⟩
    · rw [if_neg (by omega), if_neg (by omega), if_neg (by omega), if_neg (by omega)] at h; exact h
    · rcases (show what = 0 ∨ what = 1 ∨ what = 2 ∨ what = 3 by omega) with e | e | e | e
      · rw [if_pos e] at h
        rw [show kk * 4 + what = 4 * kk by omega, s1]; exact h
      · rw [if_neg (by omega), if_pos e] at h
        rw [show kk * 4 + what = 4 * kk + 1 by omega, s2]; exact h
      · rw [if_neg (by omega), if_neg (by omega), if_pos e] at h
        rw [show kk * 4 + what = 4 * kk + 2 by omega, s3]; exact h
      · rw [if_neg (by omega), if_neg (by omega), if_neg (by omega), if_pos e] at h
        rw [show kk * 4 + what = 4 * kk + 3 by omega, s4]; exact h
    · rw [if_neg (by omega), if_neg (by omega), if_neg (by omega), if_neg (by omega)] at h; exact h
end CH
