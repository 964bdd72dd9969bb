/-! THE REFERENCE'S MOVES -/
def rN (n r : Int) (M : gM) : Prop := M r 1 (-1) = n ∧ M r 2 (-1) = n * n
theorem rN.ch {n r : Int} {M M' : gM} {l : List Nat} (h : rN n r M) (c : Ch r l M M') (h1 : 1 ∉ l) (h2 : 2 ∉ l) : rN n r M' := by
  unfold rN
  rw [c.at h1, c.at h2]
  exact h
def mV (m w b k t c : Int) : Nat → Int
  | 0 => cF c
  | 1 => cT c
  | 2 => cB c
  | 3 => if t = 1 then (if cT c = k then -1 else m) else if cF c = w then m else if cB c = -1 then m else if cB c < 2 then cB c else -1
  | 4 => if t = 0 ∧ cF c = w then cT c else w
  | 5 => if t = 1 then cT c else b
  | 6 => if t = 1 then (if cT c = k then -1 else k) else if cF c = w then k else cT c
  | _ => 0
/-- the king's steps -/
def mK (n m w b k t x : Int) : Prop := (t = 0 ∧ mWk n w b k x) ∨ (t = 1 ∧ mBk n m w b k x)
def mKs (w b t : Int) : Int := if t = 0 then w else b
/-- those of them that come before the step (f, g) -/
def mKp (n m w b k t f g c : Int) : Prop := ∃ x, mOn n x ∧ mK n m w b k t x ∧ (x % n - mKs w b t % n < f ∨ (x % n - mKs w b t % n = f ∧ x / n - mKs w b t / n < g)) ∧ c = mCd (mKs w b t) x (-1)
section FI
variable {kd : gKd} {ln : gLn} {M : gM} {r n m w b k t : Int}
theorem mK_nx {x : Int} (h : mK n m w b k t x) : mNx n (mKs w b t) x := by
  rcases h with ⟨rfl, h⟩ | ⟨rfl, h⟩
  · exact h.1
  · exact h.1
theorem sX7_add' {post : gM → Prop} {V : Int → Nat → Int} {c a1 a2 a3 a4 a5 a6 a7 : Int} {cnt : Nat} {p q : Int → Prop} (hl : mLn7 ln r) (hV0 : ∀ c, V c 0 = cF c) (hV1 : ∀ c, V c 1 = cT c) (e1 : a1 = V c 0) (e2 : a2 = V c 1) (e3 : a3 = V c 2) (e4 : a4 = V c 3) (e5 : a5 = V c 4) (e6 : a6 = V c 5) (e7 : a7 = V c 6) (hv : ∀ s, s < 7 → rng (V c s)) (hd : mHd r V M cnt p) (hcnt : cnt < 48) (hnew : ∀ y, p y → cF y = cF c → cT y = cT c → y < c) (hq : ∀ x, (p x ∨ x = c) ↔ q x) (h : ∀ M', mHd r V M' (cnt + 1) q → Ch r mSl M M' → post M') : wX7_add kd ln post r a1 a2 a3 a4 a5 a6 a7 M := by
  subst e1 e2 e3 e4 e5 e6 e7
  exact sX7_add hl hV0 hV1 hv hd hcnt hnew (fun M' h1 h2 => h M' (mHd_iff h1 hq) h2)
theorem mKp_skip {f g : Int} (h : ∀ x, mOn n x → mK n m w b k t x → x % n - mKs w b t % n = f → x / n - mKs w b t / n = g → False) (c : Int) : mKp n m w b k t f g c ↔ mKp n m w b k t f (g + 1) c := by
  constructor
  · rintro ⟨x, h1, h2, h3, h4⟩
    exact ⟨x, h1, h2, by omega, h4⟩
  · rintro ⟨x, h1, h2, h3, h4⟩
    refine ⟨x, h1, h2, ?_, h4⟩
    by_cases q : x % n - mKs w b t % n = f ∧ x / n - mKs w b t / n = g
    · exact (h x h1 h2 q.1 q.2).elim
    · omega
theorem mKp_take {f g x : Int} (hN : mN n) (hx : mOn n x) (hk : mK n m w b k t x) (e1 : x % n - mKs w b t % n = f) (e2 : x / n - mKs w b t / n = g) (c : Int) : (mKp n m w b k t f g c ∨ c = mCd (mKs w b t) x (-1)) ↔ mKp n m w b k t f (g + 1) c := by
  constructor
  · rintro (⟨x, h1, h2, h3, h4⟩ | h)
    · exact ⟨x, h1, h2, by omega, h4⟩
    · exact ⟨x, hx, hk, by omega, h⟩
  · rintro ⟨z, h1, h2, h3, h4⟩
    by_cases q : z % n - mKs w b t % n = f ∧ z / n - mKs w b t / n = g
    · right
      rw [h4, mSq_eq hN h1 hx (by omega) (by omega)]
    · exact Or.inl ⟨z, h1, h2, by omega, h4⟩
/-- one step of White's king -/
theorem sX7_find_59w {post : gM → Prop} {k20 : Int → Int → gM → Prop} {k29 : Int → Int → Int → gM → Prop} {f g y : Int} {cnt : Nat} (hN : mN n) (hl : mLn7 ln r) (hn : rN n r M) (hm : 0 ≤ m ∧ m ≤ 2) (hw : mOn n w) (hb : mOn n b) (hk : mOn n k) (hL : mLg n m w b k 0) (hf : -1 ≤ f ∧ f ≤ 1) (hg : -1 ≤ g ∧ g ≤ 1) (hy : (y = -1 ∧ ∀ x, mOn n x → mK n m w b k 0 x → x % n - w % n = f → x / n - w / n = g → False) ∨ (mOn n y ∧ y % n - w % n = f ∧ y / n - w / n = g ∧ ¬ (f = 0 ∧ g = 0))) (hd : mHd r (mV m w b k 0) M cnt (mKp n m w b k 0 f g)) (hc : cnt < 48) (hk9 : ∀ M' (cnt' : Nat), cnt' ≤ cnt + 1 → mHd r (mV m w b k 0) M' cnt' (mKp n m w b k 0 f (g + 1)) → Ch r mSl M M' → k29 w f (g + 1) M') : wX7_find_59 kd ln post r m w b k 0 k20 k29 w f g y M := by
  have e1 := mSq hN hw
  have e2 := mSq hN hb
  have e3 := mSq hN hk
  have skip : (∀ x, mOn n x → mK n m w b k 0 x → x % n - w % n = f → x / n - w / n = g → False) → k29 w f (g + 1) M := fun q => hk9 M cnt (by omega) (mHd_iff hd (mKp_skip q)) Ch.rf
  have t99 : ∀ y M', k29 w f (g + 1) M' → wX7_find_122 kd ln post r m w b k 0 k20 k29 w f g y M' := fun y M' q => by
    unfold wX7_find_122 wX7_find_158 wX7_find_199
    exact ⟨by omega, fun _ => ⟨by omega, fun _ => q, fun q2 => by omega⟩, fun q2 => by omega⟩
  unfold wX7_find_59 wX7_find_199
  rcases hy with ⟨rfl, hy⟩ | ⟨hy, y1, y2, y3⟩
  · exact ⟨by omega, fun _ => skip hy, fun q => absurd rfl q⟩
  · have e4 := mSq hN hy
    have yw := mSq_iff hN hy hw
    have yb := mSq_iff hN hy hb
    have yk := mSq_iff hN hy hk
    have hnx : mNx n w y := by unfold mNx; omega
    have uq : ∀ x, mOn n x → x % n - w % n = f → x / n - w / n = g → x = y := fun x hx q1 q2 => mSq_eq hN hx hy (by omega) (by omega)
    have no : ¬ mWk n w b k y → ∀ x, mOn n x → mK n m w b k 0 x → x % n - w % n = f → x / n - w / n = g → False := fun q x hx hk q1 q2 => by
      rw [uq x hx q1 q2] at hk
      rcases hk with ⟨_, hk⟩ | ⟨hk, _⟩
      · exact q hk
      · exact absurd hk (by decide)
    refine ⟨by omega, fun q => by omega, fun _ => ⟨by omega, fun q => by omega, fun _ => ⟨by omega, fun q => ⟨by omega, fun q2 => absurd rfl q2, fun _ => ⟨by omega, fun q2 => t99 _ _ (skip (no (fun q3 => q3.2.2.2 q2))), fun q2 => ?_⟩⟩, fun q => skip (no (fun q3 => q3.2.2.1 q))⟩⟩⟩
    refine sX7_legal hN hn.1 hm hy hb hk (by omega) (fun g1 => ?_) (fun g1 => ?_)
    · refine fun _ => ⟨fun q => by omega, fun _ => ?_⟩
      have hK : mWk n w b k y := ⟨hnx, fun q3 => g1.2.2.2.1 (mNx_sym.mp q3), q, q2⟩
      obtain ⟨d1, d2, d3⟩ := mCd_d (f := w) (x := y) (q := -1) (by omega) (by omega) (by omega)
      refine sX7_add' (V := mV m w b k 0) (c := mCd w y (-1)) hl (fun _ => rfl) (fun _ => rfl) d1.symm d2.symm d3.symm ?_ ?_ ?_ ?_ ?_ hd hc ?_ (mKp_take hN hy (Or.inl ⟨rfl, hK⟩) y1 y2) (fun M' h1 h2 => t99 _ _ (hk9 M' (cnt + 1) (by omega) h1 h2))
      · simp [mV, d1]
      · simp [mV, d1, d2]
      · simp [mV]
      · simp [mV, d1]
      · intro s hs
        rcases s7 hs with rfl | rfl | rfl | rfl | rfl | rfl | rfl <;> simp [mV, d1, d2, d3] <;> omega
      · rintro c ⟨x, h1, h2, h3, h4⟩ h5 h6
        have e5 := mSq hN h1
        obtain ⟨d4, d5, d6⟩ := mCd_d (f := w) (x := x) (q := -1) (by omega) (by omega) (by omega)
        have h4 : c = mCd w x (-1) := h4
        rw [h4, d5, d2] at h6
        subst h6
        exfalso
        have h3 : x % n - w % n < f ∨ (x % n - w % n = f ∧ x / n - w / n < g) := h3
        omega
    · refine fun _ => ⟨fun _ => t99 _ _ (skip (no (fun q3 => g1 ⟨q, q2, hL.2.2.1, fun q4 => q3.2.1 (mNx_sym.mp q4), hL.2.2.2.2.1, Or.inl rfl⟩))), fun q => by omega⟩
/-- one step of Black's king -/
theorem sX7_find_59b {post : gM → Prop} {k20 : Int → Int → gM → Prop} {k29 : Int → Int → Int → gM → Prop} {f g y : Int} {cnt : Nat} (hN : mN n) (hl : mLn7 ln r) (hn : rN n r M) (hm : 0 ≤ m ∧ m ≤ 2) (hw : mOn n w) (hb : mOn n b) (hk : mOn n k) (hL : mLg n m w b k 1) (hf : -1 ≤ f ∧ f ≤ 1) (hg : -1 ≤ g ∧ g ≤ 1) (hy : (y = -1 ∧ ∀ x, mOn n x → mK n m w b k 1 x → x % n - b % n = f → x / n - b / n = g → False) ∨ (mOn n y ∧ y % n - b % n = f ∧ y / n - b / n = g ∧ ¬ (f = 0 ∧ g = 0))) (hd : mHd r (mV m w b k 1) M cnt (mKp n m w b k 1 f g)) (hc : cnt < 48) (hk9 : ∀ M' (cnt' : Nat), cnt' ≤ cnt + 1 → mHd r (mV m w b k 1) M' cnt' (mKp n m w b k 1 f (g + 1)) → Ch r mSl M M' → k29 b f (g + 1) M') : wX7_find_59 kd ln post r m w b k 1 k20 k29 b f g y M := by
  have e1 := mSq hN hw
  have e2 := mSq hN hb
  have e3 := mSq hN hk
  have skip : (∀ x, mOn n x → mK n m w b k 1 x → x % n - b % n = f → x / n - b / n = g → False) → k29 b f (g + 1) M := fun q => hk9 M cnt (by omega) (mHd_iff hd (mKp_skip q)) Ch.rf
  unfold wX7_find_59 wX7_find_199
  rcases hy with ⟨rfl, hy⟩ | ⟨hy, y1, y2, y3⟩
  · exact ⟨by omega, fun _ => skip hy, fun q => absurd rfl q⟩
  · have e4 := mSq hN hy
    have yw := mSq_iff hN hy hw
    have yb := mSq_iff hN hy hb
    have yk := mSq_iff hN hy hk
    have hnx : mNx n b y := by unfold mNx; omega
    have uq : ∀ x, mOn n x → x % n - b % n = f → x / n - b / n = g → x = y := fun x hx q1 q2 => mSq_eq hN hx hy (by omega) (by omega)
    have no : ¬ mBk n m w b k y → ∀ x, mOn n x → mK n m w b k 1 x → x % n - b % n = f → x / n - b / n = g → False := fun q x hx hk q1 q2 => by
      rw [uq x hx q1 q2] at hk
      rcases hk with ⟨hk, _⟩ | ⟨_, hk⟩
      · exact absurd hk (by decide)
      · exact q hk
    have hyw : y ≠ w := fun q => hL.2.2.2.1 (mNx_sym.mp (q ▸ hnx))
    have take : ∀ pp : gM → Prop, (∀ M', k29 b f (g + 1) M' → pp M') → mBk n m w b k y → wX7_add kd ln pp r b y (-1) (if y = k then -1 else m) w y (if y = k then -1 else k) M := fun pp hpp hK => by
      obtain ⟨d1, d2, d3⟩ := mCd_d (f := b) (x := y) (q := -1) (by omega) (by omega) (by omega)
      refine sX7_add' (V := mV m w b k 1) (c := mCd b y (-1)) hl (fun _ => rfl) (fun _ => rfl) d1.symm d2.symm d3.symm ?_ ?_ ?_ ?_ ?_ hd hc ?_ (mKp_take hN hy (Or.inr ⟨rfl, hK⟩) y1 y2) (fun M' h1 h2 => hpp M' (hk9 M' (cnt + 1) (by omega) h1 h2))
      · simp [mV, d2]
      · simp [mV]
      · simp [mV, d2]
      · simp [mV, d2]
      · intro s hs
        rcases s7 hs with rfl | rfl | rfl | rfl | rfl | rfl | rfl <;> simp [mV, d1, d2, d3] <;> (try split) <;> omega
      · rintro c ⟨x, h1, h2, h3, h4⟩ h5 h6
        have e5 := mSq hN h1
        obtain ⟨d4, d5, d6⟩ := mCd_d (f := b) (x := x) (q := -1) (by omega) (by omega) (by omega)
        have h4 : c = mCd b x (-1) := h4
        rw [h4, d5, d2] at h6
        subst h6
        exfalso
        have h3 : x % n - b % n < f ∨ (x % n - b % n = f ∧ x / n - b / n < g) := h3
        omega
    refine ⟨by omega, fun q => by omega, fun _ => ⟨by omega, fun q => absurd q hyw, fun _ => ⟨by omega, fun q => ⟨by omega, fun _ => ?_, fun q2 => absurd q2 (by decide)⟩, fun q => by omega⟩⟩⟩
    unfold wX7_find_122
    refine ⟨by omega, fun q2 => absurd rfl q2, fun _ => ⟨by omega, by omega, fun q2 => ?_, fun q2 => ?_⟩⟩
    · unfold wX7_find_158 wX7_find_199
      refine ⟨by omega, fun q3 => absurd rfl q3, fun _ => ⟨by omega, by omega, fun q3 => absurd q3 q2, fun _ => ?_⟩⟩
      refine sX7_legal hN hn.1 hm hw hy hk (by omega) (fun g1 => ?_) (fun g1 => ?_)
      · refine fun _ => ⟨fun q => by omega, fun _ => ?_⟩
        have hK : mBk n m w b k y := ⟨hnx, g1.2.2.2.1, g1.2.2.2.2.2.resolve_left (by decide)⟩
        have := take _ (fun M' q => q) hK
        rw [if_neg q2, if_neg q2] at this
        exact this
      · exact fun _ => ⟨fun _ => skip (no (fun q3 => g1 ⟨fun e => hyw e.symm, hL.2.1, q2, q3.2.1, hL.2.2.2.2.1, Or.inr q3.2.2⟩)), fun q => by omega⟩
    · have t58 : ∀ M', k29 b f (g + 1) M' → wX7_find_158 kd ln post r m w b k 1 k20 k29 b f g y M' := fun M' q => by
        unfold wX7_find_158 wX7_find_199
        exact ⟨by omega, fun q3 => absurd rfl q3, fun _ => ⟨by omega, by omega, fun _ => q, fun q3 => absurd q2 q3⟩⟩
      refine sX7_isNext hN hn.1 hy hw (fun g1 => ?_) (fun g1 => ?_)
      · exact fun _ => ⟨fun _ => t58 _ (skip (no (fun q3 => q3.2.1 (mNx_sym.mp g1)))), fun q => by omega⟩
      · refine fun _ => ⟨fun q => by omega, fun _ => ?_⟩
        have hK : mBk n m w b k y := ⟨hnx, fun q3 => g1 (mNx_sym.mp q3), fun q3 => by
          rw [q2] at q3
          rcases q3 with q3 | q3
          · have := q3.2.1; omega
          · exact q3.2.1.1 ⟨rfl, rfl⟩⟩
        have := take _ t58 hK
        rw [if_pos q2, if_pos q2] at this
        exact this
end FI
