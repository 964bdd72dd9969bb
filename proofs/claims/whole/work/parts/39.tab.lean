theorem mAll {n : Int} (hN : mN n) : 2 * (n * n) * (n * n) * (n * n) ≤ 524288 ∧ 0 ≤ 2 * (n * n) * (n * n) * (n * n) := by
  rcases mN_cases hN with rfl | rfl | rfl | rfl | rfl <;> omega
theorem mKey_all {n w b k t : Int} (hN : mN n) (hw : mOn n w) (hb : mOn n b) (hk : mOn n k) (ht : 0 ≤ t ∧ t ≤ 1) : mKey n w b k t < 2 * (n * n) * (n * n) * (n * n) := by
  unfold mKey
  rcases mN_cases hN with rfl | rfl | rfl | rfl | rfl <;> omega
/-- no distance is greater than 97 -/
def mBd (n m : Int) : Prop := ∀ (e : Nat) (w b k t : Int), mOn n w → mOn n b → mOn n k → mAtD n m e w b k t → e ≤ 97
section LG
variable {kd : gKd} {ln : gLn} {M M0 : gM} {r n m w b k t : Int}
/-- the mates -/
theorem sX7_mates {post : gM → Prop} (hN : mN n) (hl7 : mLn7 ln r) (hl : ln r 4 = 1572864) (hm : 0 ≤ m ∧ m ≤ 2) (hG : lG n m r 0 (fun _ _ _ _ => False) M0 (fun _ _ _ _ => False) M) (h : ∀ M', lG n m r 0 (fun _ _ _ _ => False) M0 (fun w b k t => mOn n w ∧ mOn n b ∧ mOn n k) M' → ∃ j, wX7_layers_158 kd ln post r m j 0 1 M') : ∃ j, wX7_layers_44 kd ln post r m j 0 M := by
  have hS := mSS hN
  have l67 : ∀ (k44 : Int → gM → Prop) (k55 : Int → Int → gM → Prop) (w b : Int), mOn n w → mOn n b → (∀ M', lG n m r 0 (fun _ _ _ _ => False) M0 (fun w1 b1 k1 t1 => (mOn n w1 ∧ mOn n b1 ∧ mOn n k1) ∧ sc w b (n * n) w1 b1 k1) M' → k55 w (b + 1) M') → ∀ (j : Nat) (k : Int) (M : gM), 0 ≤ k → k ≤ n * n → lG n m r 0 (fun _ _ _ _ => False) M0 (fun w1 b1 k1 t1 => (mOn n w1 ∧ mOn n b1 ∧ mOn n k1) ∧ sc w b k w1 b1 k1) M → n * n - k < j → wX7_layers_67 kd ln post r m k44 k55 j w b k M := by
    intro k44 k55 w b hw hb hk55 j
    induction j with
    | zero => intro k M h1 h2 h3 h4; omega
    | succ j ih =>
      intro k M h1 h2 h3 h4
      unfold wX7_layers_67 wX7_layers_135
      rw [h3.rN.2]
      refine fun _ => ⟨by omega, fun q => ?_, fun q => ?_⟩
      · have : k = n * n := by omega
        subst this
        exact hk55 M h3
      · have hk : mOn n k := ⟨h1, by omega⟩
        obtain ⟨X', x1, x2, x3, x4⟩ := id h3
        have nxt : ∀ (M' : gM) (X'' : mX), (∀ w b k t, X' w b k t → X'' w b k t) → (mAtD n m 0 w b k 1 → X'' w b k 1) → lSt n m r 0 X'' M' → lFr r m M M' → wX7_layers_67 kd ln post r m k44 k55 j w b (k + 1) M' := fun M' X'' a1 a2 a3 a4 => by
          refine ih (k + 1) M' (by omega) (by omega) ⟨X'', fun _ _ _ _ q => q.elim, ?_, a3, x4.tr a4⟩ (by omega)
          rintro w1 b1 k1 t1 ⟨b1', b2⟩ b3
          by_cases q2 : w1 = w ∧ b1 = b ∧ k1 = k
          · obtain ⟨rfl, rfl, rfl⟩ := q2
            have := (mAtD_0.mp b3).1
            subst this
            exact a2 b3
          · exact a1 _ _ _ _ (x2 _ _ _ _ ⟨b1', by omega⟩ b3)
        refine sX7_legal hN h3.rN.1 hm hw hb hk (by omega) (fun g1 => ?_) (fun g1 => fun _ => ⟨fun _ => nxt M X' (fun _ _ _ _ q => q) (fun q1 => absurd (mAtD_lg q1) g1) x3 lFr.rf, fun q1 => absurd rfl q1⟩)
        refine fun _ => ⟨fun q1 => absurd q1 (by decide), fun _ => ?_⟩
        refine sX7_attacks hN h3.rN.1 hm hw hb hk hb (fun g2 => ?_) (fun g2 => fun _ => ⟨fun _ => nxt M X' (fun _ _ _ _ q => q) (fun q1 => absurd (mSt_At.mpr (mAtD_0.mp q1).2.2.1) g2) x3 lFr.rf, fun q1 => absurd rfl q1⟩)
        refine fun _ => ⟨fun q1 => absurd q1 (by decide), fun _ => ?_⟩
        refine sX7_find hN hl7 h3.rN hm hw hb hk (Or.inr rfl) g1 (fun M' cnt a1 a2 a3 => ?_)
        obtain ⟨c1, f, c2, c3⟩ := a1
        rw [c1]
        refine fun _ => ⟨fun q1 => nxt M' X' (fun _ _ _ _ q => q) (fun q2 => ?_) (x3.ml a3) (lFr.ml a3), fun q1 => ?_⟩
        · obtain ⟨x, y1, y2, y3⟩ := mvP_black.mp ((c2.2 (f 0)).mpr ⟨0, by omega, rfl⟩)
          exact absurd y2 ((mAtD_0.mp q2).2.2.2 x y1)
        · have hA : mAtD n m 0 w b k 1 := mAtD_0.mpr ⟨rfl, g1, mSt_At.mp g2, fun x y1 y2 => by
            obtain ⟨i, hi, _⟩ := (c2.2 _).mp (mvP_black.mpr ⟨x, y1, y2, rfl⟩)
            omega⟩
          exact sX7_decide (d := 0) hN hl hm (x3.ml a3) (by omega) hw hb hk (Or.inr rfl) hA (fun M'' X'' b1 b2 b3 b4 => nxt M'' X'' b1 (fun _ => b2) b3 ((lFr.ml a3).tr b4))
  have l55 : ∀ (k44 : Int → gM → Prop) (w : Int), mOn n w → (∀ M', lG n m r 0 (fun _ _ _ _ => False) M0 (fun w1 b1 k1 t1 => (mOn n w1 ∧ mOn n b1 ∧ mOn n k1) ∧ sc w (n * n) 0 w1 b1 k1) M' → k44 (w + 1) M') → ∀ (j : Nat) (b : Int) (M : gM), 0 ≤ b → b ≤ n * n → lG n m r 0 (fun _ _ _ _ => False) M0 (fun w1 b1 k1 t1 => (mOn n w1 ∧ mOn n b1 ∧ mOn n k1) ∧ sc w b 0 w1 b1 k1) M → n * n - b < j → wX7_layers_55 kd ln post r m k44 j w b M := by
    intro k44 w hw hk44 j
    induction j with
    | zero => intro b M h1 h2 h3 h4; omega
    | succ j ih =>
      intro b M h1 h2 h3 h4
      unfold wX7_layers_55
      rw [h3.rN.2]
      refine fun _ => ⟨by omega, fun q => ?_, fun q => ⟨(n * n).toNat + 1, l67 k44 _ w b hw ⟨h1, by omega⟩ (fun M' g => ih (b + 1) M' (by omega) (by omega) (g.sub ?_) (by omega)) _ 0 M (by omega) (by omega) h3 (by omega)⟩⟩
      · have : b = n * n := by omega
        subst this
        exact hk44 M h3
      · rintro w1 b1 k1 t1 ⟨a1, a2⟩ _
        exact ⟨a1, by have := a1.2.2.1; have := a1.2.2.2; omega⟩
  have l44 : ∀ (j : Nat) (w : Int) (M : gM), 0 ≤ w → w ≤ n * n → lG n m r 0 (fun _ _ _ _ => False) M0 (fun w1 b1 k1 t1 => (mOn n w1 ∧ mOn n b1 ∧ mOn n k1) ∧ sc w 0 0 w1 b1 k1) M → n * n - w < j → wX7_layers_44 kd ln post r m j w M := by
    intro j
    induction j with
    | zero => intro b M h1 h2 h3 h4; omega
    | succ j ih =>
      intro w M h1 h2 h3 h4
      unfold wX7_layers_44
      rw [h3.rN.2]
      refine fun _ => ⟨by omega, fun q => h M (h3.sub ?_), fun q => ⟨(n * n).toNat + 1, l55 _ w ⟨h1, by omega⟩ (fun M' g => ih (w + 1) M' (by omega) (by omega) (g.sub ?_) (by omega)) _ 0 M (by omega) (by omega) h3 (by omega)⟩⟩
      · rintro w1 b1 k1 t1 a1 _
        exact ⟨a1, by have := a1.1.2; omega⟩
      · rintro w1 b1 k1 t1 ⟨a1, a2⟩ _
        exact ⟨a1, by have := a1.2.1.1; have := a1.2.1.2; have := a1.2.2.1; omega⟩
  refine ⟨(n * n).toNat + 1, l44 _ 0 M (by omega) (by omega) (hG.sub ?_) (by omega)⟩
  rintro w1 b1 k1 t1 ⟨a1, a2⟩ _
  have := a1.1.1
  have := a1.2.1.1
  have := a1.2.2.1
  omega
/-- one layer after the other -/
theorem sX7_lay {post : gM → Prop} (hN : mN n) (hl7 : mLn7 ln r) (hl : ln r 4 = 1572864) (hm : 0 ≤ m ∧ m ≤ 2) (hB : mBd n m) (hF : m = 2 → mFu n 0 r M0 ∧ mFu n 1 r M0) (h : ∀ M', rN n r M' → mFu n m r M' → lFr r m M0 M' → post M') :
    ∀ (j : Nat) (i : Int) (d : Nat) (M : gM), 0 ≤ i → i ≤ d → d + 1 ≤ 100 → rN n r M → lTb n m r (d + 1) (fun _ _ _ _ => False) M → lFr r m M0 M → (1 ≤ i → ∀ w b k t, mOn n w → mOn n b → mOn n k → ¬ mAtD n m d w b k t) → (98 ≤ d → 1 ≤ i) → (99 ≤ d → 2 ≤ i) → 100 - (d + 1) < j → wX7_layers_158 kd ln post r m j i ((d + 1 : Nat) : Int) M := by
  intro j
  induction j with
  | zero => intro i d M _ _ h1 _ _ _ _ _ _ h2; omega
  | succ j ih =>
    intro i d M h0 h0' h1 hn hT hFr hi h98 h99 hj
    -- nothing comes any more
    have fin : 2 ≤ i → (m ≠ 2 ∨ 99 ≤ d) → post M := fun q1 q2 => by
      have no : ∀ e, d ≤ e → ∀ w b k t, mOn n w → mOn n b → mOn n k → ¬ mAtD n m e w b k t := by
        rcases q2 with q2 | q2
        · intro e he
          induction he with
          | refl => exact hi (by omega)
          | @step e _ ih2 =>
            intro w b k t a1 a2 a3 a4
            rcases mD_turn a4.1 with rfl | rfl
            · rcases (mAtD_w' a4).2 with ⟨x, y1, y2, y3⟩ | ⟨x, y1, y2, y3⟩ | ⟨y1, _⟩
              · exact ih2 x b k 1 y1 a2 a3 y3
              · exact ih2 w b x 1 a1 a2 y1 y3
              · exact q2 y1.1
            · obtain ⟨x, y1, y2, y3⟩ := (mAtD_b' a4).2.1
              exact ih2 w x k 0 a1 y1 a3 y3
        · intro e he w b k t a1 a2 a3 a4
          have := hB e w b k t a1 a2 a3 a4
          omega
      refine h M hn (fun w b k t a1 a2 a3 a4 => ?_) hFr
      obtain ⟨b1, b2, b3⟩ := hT w b k t a1 a2 a3 a4
      refine ⟨fun e q => b1 e ?_ q, fun q => b3 (fun ⟨e, _, q3⟩ => q e q3) (fun q => q)⟩
      rcases Nat.lt_or_ge e d with q3 | q3
      · omega
      · exact absurd q (no e q3 w b k t a1 a2 a3)
    have go : (i < 2 ∨ m = 2 ∧ d + 1 < 100) → wX7_layers_175 kd ln post r m (wX7_layers_158 kd ln post r m j) i ((d + 1 : Nat) : Int) M := fun q0 => by
      have hd : d + 1 < 100 := by omega
      have c0 : Ch r lSl M (gu M r 20 (-1) 0) := Ch.up Ch.rf (by decide) _ _
      have f0 : lFr r m M (gu M r 20 (-1) 0) := ⟨c0, fun i _ => by rw [gu_k (by decide)]⟩
      have s0 : lSt n m r (d + 1) (fun _ _ _ _ => False) (gu M r 20 (-1) 0) := by
        refine ⟨hn.ch c0 (by decide) (by decide), fun w b k t a1 a2 a3 a4 => ?_, fun _ _ _ _ q => q.elim, Or.inr (Or.inl ⟨gu_s, fun _ _ _ _ q => q⟩)⟩
        unfold mT
        rw [gu_k (by decide)]
        exact hT w b k t a1 a2 a3 a4
      -- behind a layer
      have t206 : ∀ M' (X' : mX), lSt n m r (d + 1) X' M' → (∀ w b k t, mOn n w → mOn n b → mOn n k → mAtD n m (d + 1) w b k t → X' w b k t) → lFr r m M0 M' → wX7_layers_206 kd ln post r m (wX7_layers_158 kd ln post r m j) i ((d + 1 : Nat) : Int) M' := fun M' X' a1 a2 a3 => by
        have hT' : lTb n m r (d + 1 + 1) (fun _ _ _ _ => False) M' := by
          intro w b k t b1 b2 b3 b4
          obtain ⟨c1, c2, c3⟩ := a1.2.1 w b k t b1 b2 b3 b4
          refine ⟨fun e q1 q2 => ?_, fun q => q.elim, fun q1 _ => c3 (fun q2 => q1 (mBl_mono q2 (by omega))) (fun q2 => q1 ⟨d + 1, by omega, a1.2.2.1 _ _ _ _ q2⟩)⟩
          rcases Nat.lt_or_eq_of_le (Nat.lt_succ_iff.mp q1) with q3 | q3
          · exact c1 e q3 q2
          · subst q3
            exact c2 (a2 w b k t b1 b2 b3 q2)
        have e1 : ((d + 1 : Nat) : Int) + 1 = ((d + 1 + 1 : Nat) : Int) := by omega
        unfold wX7_layers_206 wX7_layers_220
        rw [e1]
        have fr := a1.2.2.2
        refine fun _ => ⟨fun q => ?_, fun q => ?_⟩
        · refine ih (i + 1) (d + 1) M' (by omega) (by omega) (by omega) a1.1 hT' a3 (fun _ w b k t b1 b2 b3 b4 => ?_) (by omega) (by omega) (by omega)
          rcases fr with fr | fr | fr
          · omega
          · exact fr.2 _ _ _ _ (a2 w b k t b1 b2 b3 b4)
          · have := fr.1; omega
        · refine ih 0 (d + 1) M' (by omega) (by omega) (by omega) a1.1 hT' a3 (fun q2 => by omega) (fun q2 => ?_) (fun q2 => ?_) (by omega)
          · exfalso
            rcases fr with fr | fr | ⟨_, w, b, k, t, b1, b2, b3, b4⟩
            · omega
            · exact q fr.1
            · have := hB _ _ _ _ _ b1 b2 b3 (a1.2.2.1 _ _ _ _ b4)
              omega
          · exfalso
            rcases fr with fr | fr | ⟨_, w, b, k, t, b1, b2, b3, b4⟩
            · omega
            · exact q fr.1
            · have := hB _ _ _ _ _ b1 b2 b3 (a1.2.2.1 _ _ _ _ b4)
              omega
      unfold wX7_layers_175
      refine sX7_layer (M0 := M) (X := fun _ _ _ _ => False) hN hl7 hl hm (by omega) ⟨fun _ _ _ _ => False, fun _ _ _ _ q => q, fun _ _ _ _ q => q.elim, s0, f0⟩ (fun M' g => ⟨by omega, fun q1 => ?_, fun q1 => ⟨by omega, by omega, fun q2 => ?_, fun q2 => ?_⟩⟩)
      · obtain ⟨X', x1, x2, x3, x4⟩ := g
        refine t206 M' X' x3 (fun w b k t a1 a2 a3 a4 => x2 w b k t ⟨a1, a2, a3, ?_⟩ a4) (hFr.tr x4)
        rcases mD_turn a4.1 with rfl | rfl
        · rcases (mAtD_w' a4).2 with y | y | y
          · exact Or.inl ⟨rfl, Or.inl y⟩
          · exact Or.inl ⟨rfl, Or.inr y⟩
          · exact absurd y.1.1 q1
        · exact Or.inr ⟨rfl, (mAtD_b' a4).2.1⟩
      · obtain ⟨X', x1, x2, x3, x4⟩ := g
        refine t206 M' X' x3 (fun w b k t a1 a2 a3 a4 => x2 w b k t ⟨a1, a2, a3, ?_⟩ a4) (hFr.tr x4)
        rcases mD_turn a4.1 with rfl | rfl
        · have := mAtD_par a4
          omega
        · exact Or.inr ⟨rfl, (mAtD_b' a4).2.1⟩
      · subst q1
        obtain ⟨F0, F1⟩ := hF rfl
        refine sX7_promotions (M0 := M) hN hl (by omega) (F0.fr hN hFr (by decide)) (F1.fr hN hFr (by decide)) g (fun M'' g' => ?_)
        obtain ⟨X', x1, x2, x3, x4⟩ := g'
        refine t206 M'' X' x3 (fun w b k t a1 a2 a3 a4 => x2 w b k t ?_ a4) (hFr.tr x4)
        rcases mD_turn a4.1 with rfl | rfl
        · rcases (mAtD_w' a4).2 with y | y | y
          · exact Or.inl ⟨a1, a2, a3, Or.inl ⟨rfl, Or.inl y⟩⟩
          · exact Or.inl ⟨a1, a2, a3, Or.inl ⟨rfl, Or.inr y⟩⟩
          · exact Or.inr ⟨a1, a2, a3, rfl, y⟩
        · exact Or.inl ⟨a1, a2, a3, Or.inr ⟨rfl, (mAtD_b' a4).2.1⟩⟩
    unfold wX7_layers_158
    refine ⟨by omega, fun q => go (Or.inl q), fun q => ⟨by omega, fun q1 => fin (by omega) (Or.inr (by omega)), fun q1 => ⟨by omega, fun q2 => fin (by omega) (Or.inl q2), fun q2 => go (Or.inr ⟨q2, by omega⟩)⟩⟩⟩
theorem sX7_layers {post : gM → Prop} (hN : mN n) (hl7 : mLn7 ln r) (hl : ln r 4 = 1572864) (hm : 0 ≤ m ∧ m ≤ 2) (hB : mBd n m) (hn : rN n r M) (hF : m = 2 → mFu n 0 r M ∧ mFu n 1 r M) (h : ∀ M', rN n r M' → mFu n m r M' → lFr r m M M' → post M') : wX7_layers kd ln post r m M := by
  have hA := mAll hN
  have clr : ∀ (j : Nat) (x : Int) (M' : gM), 0 ≤ x → x ≤ 2 * (n * n) * (n * n) * (n * n) → (∀ i, 0 ≤ i → i < x → M' r 4 (524288 * m + i) = 0) → lFr r m M M' → 2 * (n * n) * (n * n) * (n * n) - x < j → wX7_layers_19 kd ln post r m j (2 * (n * n) * (n * n) * (n * n)) x M' := by
    intro j
    induction j with
    | zero => intro x M' h1 h2 h3 h4 h5; omega
    | succ j ih =>
      intro x M' h1 h2 h3 h4 h5
      unfold wX7_layers_19
      refine ⟨by omega, by omega, fun q => ?_, fun q => ⟨by omega, by omega, ?_⟩⟩
      · have hn' := hn.ch h4.1 (by decide) (by decide)
        have z : ∀ w b k t, mOn n w → mOn n b → mOn n k → (t = 0 ∨ t = 1) → mT n m r M' w b k t = 0 := fun w b k t a1 a2 a3 a4 => by
          have e1 := mKey_r hN a1 a2 a3 (show 0 ≤ t ∧ t ≤ 1 by omega)
          have e2 := mKey_all hN a1 a2 a3 (show 0 ≤ t ∧ t ≤ 1 by omega)
          exact h3 _ e1.1 (by omega)
        refine sX7_mates (M0 := M) hN hl7 hl hm ⟨fun _ _ _ _ => False, fun _ _ _ _ q => q, fun _ _ _ _ q => q.elim, ⟨hn', fun w b k t a1 a2 a3 a4 => ⟨fun e he => absurd he (Nat.not_lt_zero e), fun q => q.elim, fun _ _ => z w b k t a1 a2 a3 a4⟩, fun _ _ _ _ q => q.elim, Or.inl rfl⟩, h4⟩ (fun M'' g => ?_)
        obtain ⟨X', x1, x2, x3, x4⟩ := g
        refine ⟨100, sX7_lay hN hl7 hl hm hB hF h 100 0 0 M'' (by omega) (by omega) (by omega) x3.1 (fun w b k t a1 a2 a3 a4 => ?_) x4 (fun q => by omega) (by omega) (by omega) (by omega)⟩
        obtain ⟨c1, c2, c3⟩ := x3.2.1 w b k t a1 a2 a3 a4
        refine ⟨fun e q1 q2 => ?_, fun q => q.elim, fun q1 _ => c3 (fun q2 => q1 (mBl_mono q2 (by omega))) (fun q2 => q1 ⟨0, by omega, x3.2.2.1 _ _ _ _ q2⟩)⟩
        have : e = 0 := by omega
        subst this
        exact c2 (x2 w b k t ⟨a1, a2, a3⟩ q2)
      · refine ih (x + 1) _ (by omega) (by omega) (fun i i1 i2 => ?_) (h4.tr ⟨Ch.up Ch.rf (by decide) _ _, fun i i1 => gu_i (by omega)⟩) (by omega)
        rw [gu_v]
        split
        · rfl
        · exact h3 i i1 (by omega)
  unfold wX7_layers
  rw [hn.2]
  intro _ v4 ev
  subst ev
  exact ⟨(2 * (n * n) * (n * n) * (n * n)).toNat + 1, clr _ 0 M (by omega) (by omega) (fun i h1 h2 => by omega) lFr.rf (by omega)⟩
end LG
