section LI
variable {kd : gKd} {ln : gLn} {M : gM} {h n m w b k t : Int}
/-- what a line changes -/
def lnF (h x p : Int) (M M' : gM) : Prop := (∀ y, y ≠ h → y ≠ x → y ≠ p → M' y = M y) ∧ ∀ k, k ≠ 7 → k ≠ 8 → M' h k = M h k
theorem mAtD_ds {d : Nat} (h : mDs n m w b k t = d) : mAtD n m d w b k t := by
  rcases mDs_c n m w b k t with ⟨e, q1, q2⟩ | ⟨q1, q2⟩
  · have : e = d := by omega
    rw [← this]; exact q1
  · omega
theorem tbs.mo {m' o : Int} (ht : tbs n m kd ln M o) (hm : m' = m ∨ (m = 2 ∧ m' ≤ 1)) : tbs n m' kd ln M o := fun m'' h1 h2 => ht m'' h1 (by omega)
theorem sX6_line_53 {post : Int → gM → Prop} {px : gM → Prop} {d : Nat} {a1 a2 a3 a4 a5 : Int} (hN : mN n) (hH : hou n kd ln M h) (hd : d ≤ 97) (hpost : ∀ M', (∀ i, i < d → lnS n (hRow h M' i) (hRow h M' (i + 1))) → (∀ j, j < 5 → hRow h M' 0 j = rw5 a1 a2 a3 a4 a5 j) → lnF h (M h 5 (-1)) (M h 6 (-1)) M M' → M' h 8 (-1) = (d : Int) + 1 → post d M') :
    ∀ (j i : Nat) (M' : gM) (m w b k t : Int), i ≤ d → mNu n m w b k t → mLg n m w b k t → tbs n m kd ln M (M h 1 (-1)) → (M' (M h 6 (-1)) 0 (-1) = m ∧ M' (M h 6 (-1)) 1 (-1) = w ∧ M' (M h 6 (-1)) 2 (-1) = b ∧ M' (M h 6 (-1)) 3 (-1) = k ∧ M' (M h 6 (-1)) 4 (-1) = t) → mDs n m w b k t = ((d - i : Nat) : Int) → (∀ j, j < 5 → hRow h M' i j = rw5 m w b k t j) → (∀ i', i' < i → lnS n (hRow h M' i') (hRow h M' (i' + 1))) → (∀ j, j < 5 → hRow h M' 0 j = rw5 a1 a2 a3 a4 a5 j) → lnF h (M h 5 (-1)) (M h 6 (-1)) M M' → M' h 8 (-1) = ((i + 1 : Nat) : Int) → d - i < j → wX6_line_53 kd ln post px h a1 a2 a3 a4 a5 j ((d - i : Nat) : Int) M' := by
  have hH0 := hH
  obtain ⟨⟨kh, h0⟩, ⟨-, -, l7, -, -⟩, -, -, -, ⟨-, -, ⟨x1, x2⟩, p4⟩, -⟩ := hH0
  have hp : h ≠ M h 6 (-1) := fun e => by rw [← e, kh] at p4; exact absurd p4 (by decide)
  have hx : h ≠ M h 5 (-1) := fun e => by rw [← e, kh] at x1; exact absurd x1 (by decide)
  have xp : M h 5 (-1) ≠ M h 6 (-1) := fun e => by rw [e, p4] at x1; exact absurd x1 (by decide)
  intro j
  induction j with
  | zero => intro i M' m w b k t h1 h2 h3 h4 h5 h6 h7 h8 h9 h10 h11 h12; omega
  | succ j ih =>
    intro i M' m w b k t h1 h2 h3 h4 h5 h6 h7 h8 h9 h10 h11 h12
    obtain ⟨m1, w1, b1, k1, t1⟩ := id h2
    have e5 : M' h 5 = M h 5 := h10.2 5 (by decide) (by decide)
    have e6 : M' h 6 = M h 6 := h10.2 6 (by decide) (by decide)
    unfold wX6_line_53 wX6_line_120
    rw [e5, e6]
    refine ⟨by omega, fun g => ?_, fun g => ⟨x1, p4, ?_⟩⟩
    · have hi : i = d := by omega
      subst hi
      rw [h11]
      refine fun _ => ⟨by omega, ?_⟩
      rw [show ((i + 1 : Nat) : Int) - 1 = (i : Int) by omega]
      exact hpost M' h8 h9 h10 (by rw [h11]; push_cast; rfl)
    · obtain ⟨e, ee⟩ : ∃ e : Nat, d - i = e + 1 := ⟨d - i - 1, by omega⟩
      rw [ee] at h6
      have hA := mAtD_ds h6
      have keep : ∀ y, (kd y = 0 ∨ kd y = 2 ∨ kd y = 5) → M' y = M y := fun y hy => h10.1 y (fun q => by rw [q, kh] at hy; omega) (fun q => by rw [q, x1] at hy; omega) (fun q => by rw [q, p4] at hy; omega)
      have ga : gaC n m kd ln M' h (M h 1 (-1)) (M h 5 (-1)) (M h 6 (-1)) w b k t := hH.ga hN m1 h4 ⟨x1, x2⟩ p4 keep (by rw [h10.2 1 (by decide) (by decide)]) h5
      refine sX6_gather hN m1 ga w1 b1 k1 (by omega) h3 (fun M2 cnt f s1 s2 s3 s4 => ?_)
      have eh2 : M2 h = M' h := s4.ot hx
      rw [eh2, e5]
      refine ⟨x1, sX6_goalAfter ⟨by omega, by omega⟩ fun rgo => ?_⟩
      have go : mGo ((d - i : Nat) : Int) = e := by unfold mGo; rw [if_neg (by omega)]; omega
      rw [go] at rgo ⊢
      refine sX1_keep x2 s2 s1 s3 (fun c hc => mv_rg hN w1 b1 k1 hc) rgo (fun M3 qq f' u1 u2 u3 u4 => ?_)
      have eh3 : M3 h = M' h := (u4.ot hx).trans eh2
      obtain ⟨c0, c1, c2⟩ := mv_ex hN m1 w1 b1 k1 hA
      obtain ⟨i0, i1, -⟩ := (u1.2 c0).mp ⟨c1, c2⟩
      have q0 : 0 < qq := by omega
      obtain ⟨v1, v2⟩ := (u1.2 (f' 0)).mpr ⟨0, q0, rfl⟩
      have vmin : ∀ c', mvP n m w b k t c' → mAf n m w b k t c' = e → f' 0 ≤ c' := fun c' g1 g2 => by
        obtain ⟨i', i1', i2'⟩ := (u1.2 c').mp ⟨g1, g2⟩
        rcases Nat.eq_zero_or_pos i' with z | z
        · rw [z] at i2'; omega
        · have := u1.1 0 i' z i1'; omega
      have nv : mV m w b k t (f' 0) 3 ≠ -1 := fun q => by
        unfold mAf at v2
        rw [if_pos q] at v2
        omega
      have row := (mv_row hN m1 w1 b1 k1 (by omega) h3 v1).resolve_left nv
      have dn : mDs n (mV m w b k t (f' 0) 3) (mV m w b k t (f' 0) 4) (mV m w b k t (f' 0) 5) (mV m w b k t (f' 0) 6) (1 - t) = e := by
        unfold mAf at v2
        rw [if_neg nv] at v2
        exact v2
      have e53 : M3 h 5 = M h 5 := by rw [eh3]; exact e5
      have e63 : M3 h 6 = M h 6 := by rw [eh3]; exact e6
      rw [e53, e63, u2.1]
      refine ⟨x1, fun _ => ⟨fun _ => ⟨p4, ?_⟩, fun g2 => by omega⟩⟩
      have p3 : M3 (M h 6 (-1)) = M' (M h 6 (-1)) := (u4.ot (fun q => xp q.symm)).trans (s4.ot (fun q => xp q.symm))
      refine sX4_play x2 xp u3 q0 u2 rfl (mv_rg hN w1 b1 k1 v1) (by rw [p3]; exact h5) m1 (by omega) nv (fun M4 f4 o4 => ?_)
      have eh4 : M4 h = M' h := (o4 h hp).trans eh3
      rw [eh4, e6]
      refine ⟨p4, sX6_addToLine (c := i + 1) l7 (by rw [eh4]; exact h11) (by omega) (fun q => hp q.symm) f4 (fun M5 r1 r2 r3 r4 => ?_)⟩
      have f5 : M5 (M h 6 (-1)) = M4 (M h 6 (-1)) := r4.ot (fun q => hp q.symm)
      have ln1 : lnS n (hRow h M5 i) (hRow h M5 (i + 1)) := by
        have base : lnS n (rw5 m w b k t) (rw5 (mV m w b k t (f' 0) 3) (mV m w b k t (f' 0) 4) (mV m w b k t (f' 0) 5) (mV m w b k t (f' 0) 6) (1 - t)) := by
          show ∃ c, mvP n m w b k t c ∧ mAf n m w b k t c = mGo (mDs n m w b k t) ∧ (∀ c', mvP n m w b k t c' → mAf n m w b k t c' = mGo (mDs n m w b k t) → c ≤ c') ∧ mV m w b k t (f' 0) 3 = mV m w b k t c 3 ∧ mV m w b k t (f' 0) 4 = mV m w b k t c 4 ∧ mV m w b k t (f' 0) 5 = mV m w b k t c 5 ∧ mV m w b k t (f' 0) 6 = mV m w b k t c 6 ∧ 1 - t = 1 - t
          have g1 : mGo (mDs n m w b k t) = e := by rw [h6]; unfold mGo; rw [if_neg (by omega)]; omega
          rw [g1]
          exact ⟨f' 0, v1, v2, vmin, rfl, rfl, rfl, rfl, rfl⟩
        refine lnS_cong base (fun j' hj => ?_) (fun j' hj => r1 j' hj)
        rw [r2 i (by omega) j' hj]
        unfold hRow
        rw [eh4]
        exact h7 j' hj
      have old : ∀ i', i' < i + 1 → ∀ j', j' < 5 → hRow h M5 i' j' = hRow h M' i' j' := fun i' hi' j' hj' => by
        rw [r2 i' hi' j' hj']
        unfold hRow
        rw [eh4]
      have := ih (i + 1) M5 _ _ _ _ _ (by omega) ⟨row.1.1, row.1.2.1, row.1.2.2.1, row.1.2.2.2, by omega⟩ row.2.2 (h4.mo row.2.1) (by rw [f5]; exact f4) (by rw [dn]; omega) (fun j' hj' => r1 j' hj') (fun i' hi' => ?_) (fun j' hj' => ?_) ⟨fun y y1 y2 y3 => ?_, fun k' k7 k8 => ?_⟩ (by rw [r3]) (by omega)
      · rw [show ((d - i : Nat) : Int) + (-1) = ((d - (i + 1) : Nat) : Int) by omega]
        exact this
      · rcases Nat.lt_or_eq_of_le (Nat.lt_succ_iff.mp hi') with g1 | g1
        · exact lnS_cong (h8 i' g1) (fun j' hj' => old i' (by omega) j' hj') (fun j' hj' => old (i' + 1) (by omega) j' hj')
        · rw [g1]; exact ln1
      · rw [old 0 (by omega) j' hj']; exact h9 j' hj'
      · rw [r4.ot y1, o4 y y3, u4.ot y2, s4.ot y2]; exact h10.1 y y1 y2 y3
      · rw [r4.at (by simp [k7, k8]), eh4]; exact h10.2 k' k7 k8
theorem sX6_line {post : Int → gM → Prop} {px : gM → Prop} (hN : mN n) (hH : hou n kd ln M h) (hmr : rng m) (hw : rng w) (hb : rng b) (hk : rng k) (ht : rng t) (hok : mNu n m w b k t → M h 2 m ≠ 0 → mLg n m w b k t → ∀ M' (pl : Nat), ((pl : Int) = mDs n m w b k t ∨ (mDs n m w b k t = -1 ∧ pl = 0)) → (∀ i, i < pl → lnS n (hRow h M' i) (hRow h M' (i + 1))) → (∀ j, j < 5 → hRow h M' 0 j = rw5 m w b k t j) → lnF h (M h 5 (-1)) (M h 6 (-1)) M M' → M' h 8 (-1) = (pl : Int) + 1 → post pl M') (hno : ¬ (mNu n m w b k t ∧ M h 2 m ≠ 0 ∧ mLg n m w b k t) → px M) : wX6_line kd ln post px h m w b k t M := by
  have hH0 := hH
  obtain ⟨⟨kh, h0⟩, ⟨-, -, l7, -, -⟩, -, -, -, ⟨-, -, ⟨x1, x2⟩, p4⟩, -⟩ := hH0
  have hp : h ≠ M h 6 (-1) := fun e => by rw [← e, kh] at p4; exact absurd p4 (by decide)
  unfold wX6_line
  refine sX6_demandTable hN hH hmr hw hb hk ht (fun q1 q2 q3 q tq => ⟨tq.2.2.2.2.2.1, ?_⟩) hno
  obtain ⟨m1, w1, b1, k1, t1⟩ := id q1
  have rg := mDs_rg (t := t) hN m1 w1 b1 k1
  refine sX5_look hN tq.1 tq.2.2.1 w1 b1 k1 t1 fun _ => ⟨p4, sX4_set hmr hw hb hk ht (fun M1 f1 f2 => ?_)⟩
  have eh : M1 h = M h := f2 h hp
  obtain ⟨M2, e2⟩ : ∃ M2, M2 = gu M1 h 8 (-1) 0 := ⟨_, rfl⟩
  have M2h : ∀ k', k' ≠ 8 → M2 h k' = M h k' := fun k' hk' => by rw [e2, gu_k hk', eh]
  have M2o : ∀ y, y ≠ h → M2 y = M1 y := fun y hy => by rw [e2]; exact gu_o hy
  rw [← e2, M2h 6 (by decide)]
  refine ⟨p4, sX6_addToLine (c := 0) l7 (by rw [e2]; exact gu_s) (by omega) (fun q => hp q.symm) (by rw [M2o _ (fun q => hp q.symm)]; exact f1) (fun M3 r1 r2 r3 r4 => ?_)⟩
  have F3 : lnF h (M h 5 (-1)) (M h 6 (-1)) M M3 := ⟨fun y y1 y2 y3 => by rw [r4.ot y1, M2o y y1, f2 y y3], fun k' k7 k8 => by rw [r4.at (by simp [k7, k8]), M2h k' k8]⟩
  by_cases g : mDs n m w b k t = -1
  · refine ⟨1, ?_⟩
    unfold wX6_line_53 wX6_line_120
    rw [g, r3]
    refine ⟨by omega, fun _ _ => ⟨by omega, ?_⟩, fun g2 => by omega⟩
    exact hok q1 q2 q3 M3 0 (Or.inr ⟨g, rfl⟩) (fun i hi => absurd hi (Nat.not_lt_zero i)) r1 F3 (by rw [r3]; rfl)
  · obtain ⟨d, ed⟩ : ∃ d : Nat, mDs n m w b k t = d := ⟨(mDs n m w b k t).toNat, by omega⟩
    refine ⟨d + 1, ?_⟩
    have := sX6_line_53 (px := px) (post := post) (d := d) (a1 := m) (a2 := w) (a3 := b) (a4 := k) (a5 := t) hN hH (by omega) (fun M' g1 g2 g3 g4 => hok q1 q2 q3 M' d (Or.inl ed.symm) g1 g2 g3 g4) (d + 1) 0 M3 m w b k t (by omega) q1 q3 (hH.ts hN m1 q2) (by rw [r4.ot (fun q => hp q.symm), M2o _ (fun q => hp q.symm)]; exact f1) (by rw [ed]; omega) r1 (fun i hi => absurd hi (Nat.not_lt_zero i)) r1 F3 (by rw [r3]) (by omega)
    rw [ed]
    exact this
theorem sX6_ply {post : Int → gM → Prop} {kk what : Int} (hl : ln h 7 = 635) (hkr : rng kk) (hw : rng what) (hr : 0 ≤ M h 8 (-1) ∧ M h 8 (-1) ≤ 127) (hp : post (if (0 ≤ kk ∧ kk < M h 8 (-1)) ∧ 0 ≤ what ∧ what ≤ 4 then M h 7 (5 * kk + what) else -1) M) : wX6_ply kd ln post h kk what M := by
  unfold wX6_ply
  rw [hl]
  refine ⟨hkr, fun g => ?_, fun g _ => ⟨fun g2 => ?_, fun g2 => ⟨hw, fun g3 => ?_, fun g3 => ⟨fun g4 => ⟨by omega, by omega, fun _ => ?_⟩, fun g4 => ?_⟩⟩⟩⟩
  · rw [if_neg (by omega)] at hp; exact hp
  · rw [if_neg (by omega)] at hp; exact hp
  · rw [if_neg (by omega)] at hp; exact hp
  · rw [if_pos (by omega)] at hp
    rw [show kk * 5 + what = 5 * kk + what by omega]; exact hp
  · rw [if_neg (by omega)] at hp; exact hp
end LI
