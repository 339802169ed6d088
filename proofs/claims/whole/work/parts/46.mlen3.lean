/-- a shortest length, or none -/
def lMin (x : Int64) (U : Nat) (D : Nat → Prop) : Prop := (∃ L, x = lN L ∧ L ≤ 1000000000000 ∧ D L ∧ ∀ L', D L' → L ≤ L') ∨ (x = lN U ∧ ∀ L, ¬ D L)
def sumL (f : Nat → Int64) : Nat → Nat
  | 0 => 0
  | n + 1 => sumL f n + lq (f n)
theorem sumL_le {f g : Nat → Int64} (h : ∀ c, lq (f c) ≤ lq (g c)) : ∀ n, sumL f n ≤ sumL g n
  | 0 => Nat.le_refl _
  | n + 1 => Nat.add_le_add (sumL_le h n) (h n)
theorem sumL_lt {f g : Nat → Int64} (h : ∀ c, lq (f c) ≤ lq (g c)) {c : Nat} (hc : lq (f c) < lq (g c)) : ∀ n, c < n → sumL f n < sumL g n
  | 0, z => absurd z (by omega)
  | n + 1, z => by
    by_cases q : c = n
    · subst q; exact Nat.add_lt_add_of_le_of_lt (sumL_le h c) hc
    · exact Nat.add_lt_add_of_lt_of_le (sumL_lt h hc n (by omega)) (h n)
/-- all but the two marks of measuring is as it was -/
def mSame (w w1 : qq_w) : Prop := (∀ q, q ≠ 8 → w1.1 q = w.1 q) ∧ ∀ j, j ≠ 36 → j ≠ 39 → w1.1 8 j = w.1 8 j
theorem mSame_rf {w : qq_w} : mSame w w := ⟨fun _ _ => rfl, fun _ _ _ => rfl⟩
theorem mSame_tr {w w1 w2 : qq_w} (h : mSame w w1) (h2 : mSame w1 w2) : mSame w w2 := ⟨fun q hq => (h2.1 q hq).trans (h.1 q hq), fun j a b => (h2.2 j a b).trans (h.2 j a b)⟩
theorem mSame_sy {w w1 : qq_w} (h : mSame w w1) : mSame w1 w := ⟨fun q hq => (h.1 q hq).symm, fun j a b => (h.2 j a b).symm⟩
theorem mSame_ui {w : qq_w} {k : Nat} {x : Int32} (hk : k = 36 ∨ k = 39) : mSame w (qq_ui w 8 k x) := by
  refine ⟨fun q hq => ?_, fun j a b => ?_⟩
  · show va_up w.1 8 _ q = _
    simp only [va_up, hq, if_false]
  · show upd (w.1 8) k x j = _
    rw [upd_at, if_neg (by omega)]
theorem mRl_same {k M : Nat} {w w' : qq_w} {A : Nat → Nat → Prop} {C : Prop} (h : mRl k M w w' A C) : mSame w w' := ⟨h.1, fun j _ b => h.2.1 j b⟩
theorem mTgt_sm {w w1 : qq_w} (h : mSame w w1) (n p : Nat) (f x : Int32) : mTgt w1 n p f x ↔ mTgt w n p f x := mTgt_congr (fun k hk => h.1 k (fun z => by simp at hk; omega)) (h.2 23 (by decide) (by decide)) n p f x
theorem mF_sm {w w1 : qq_w} (h : mSame w w1) : mF w1 = mF w := by
  funext n p f g
  unfold mF
  simp only [mTgt_sm h]
theorem mEnt_sm {w w1 : qq_w} (h : mSame w w1) : mEnt w1 = mEnt w := by
  funext n d
  unfold mEnt mHolds
  rw [h.2 2 (by decide) (by decide), h.1 39 (by decide), h.1 56 (by decide)]
theorem mStp_sm {w w1 : qq_w} (h : mSame w w1) : mStp w1 = mStp w := by
  funext n e t g
  unfold mStp
  rw [h.2 20 (by decide) (by decide), h.1 43 (by decide), h.1 52 (by decide), h.1 53 (by decide), h.1 49 (by decide), mF_sm h]
theorem mThr_sm {w w1 : qq_w} (h : mSame w w1) : mThr w1 = mThr w := by
  funext c e l g h' r g'
  unfold mThr
  rw [h.1 43 (by decide), h.1 40 (by decide), h.1 47 (by decide), h.1 49 (by decide), mF_sm h]
theorem mLD_sm {w w1 : qq_w} (h : mSame w w1) : mLD w1 = mLD w := by
  unfold mLD
  rw [mEnt_sm h, mStp_sm h, mThr_sm h]
theorem mLDc_sm {w w1 : qq_w} (h : mSame w w1) : mLDc w1 = mLDc w := by
  funext c L
  unfold mLDc
  rw [mLD_sm h]
theorem mClF_sm {w w1 : qq_w} (h : mSame w w1) (h2 : w1.2 59 = w.2 59) : mClF w1 = mClF w := by
  funext n d e
  unfold mClF
  rw [h2, mStp_sm h, mThr_sm h]
theorem mPW_sm {w w1 : qq_w} {N : Nat} (h : mSame w w1) (hP : mPW w N) : mPW w1 N := by
  have s1 : ∀ k, k ∈ [37, 38, 41, 43, 44, 45, 46, 47, 48, 50, 51, 54] → w1.1 k = w.1 k := fun k hk => h.1 k (fun z => by simp at hk; omega)
  obtain ⟨a1, a2, a3, a4, a5, a6⟩ := hP
  refine ⟨by rw [h.2 8 (by decide) (by decide)]; exact a1, a2, ?_, ?_, fun n hn => mFN_congr s1 (a5 n hn), fun n p f x hn hp hf hx => a6 n p f x hn hp hf ((mTgt_sm h n p _ x).mp hx)⟩
  · rw [h.1 39 (by decide), h.1 40 (by decide), h.1 43 (by decide), h.1 47 (by decide), h.1 49 (by decide)]; exact a3
  · rw [h.2 20 (by decide) (by decide), h.1 52 (by decide), h.1 53 (by decide)]; exact a4
theorem mBegin_sm {w w1 : qq_w} (h : mSame w w1) : mBegin w1 = mBegin w := by
  unfold mBegin
  rw [h.2 23 (by decide) (by decide), h.2 25 (by decide) (by decide), h.1 37 (by decide)]
theorem mBg_sm {w w1 : qq_w} (h : mSame w w1) : mBg w1 = mBg w := by
  funext n f
  unfold mBg
  rw [mBegin_sm h, h.1 39 (by decide)]
theorem mPr_sm {w w1 : qq_w} (h : mSame w w1) : mPr w1 = mPr w := by
  funext n f
  unfold mPr
  rw [h.1 39 (by decide), h.1 42 (by decide)]
theorem mGoI_sm {w w1 : qq_w} (h : mSame w w1) : mGoI w1 = mGoI w := by
  funext c f m g
  unfold mGoI
  rw [h.1 39 (by decide), h.1 43 (by decide), h.1 47 (by decide), mF_sm h]
theorem mLvK_sm {w w1 : qq_w} (h2 : w1.2 59 = w.2 59) : mLvK w1 = mLvK w := by
  funext N n d f b
  unfold mLvK
  rw [h2]
theorem mWD_sm {w w1 : qq_w} (h : mSame w w1) (h2 : w1.2 59 = w.2 59) (N : Nat) : mWD w1 N = mWD w N := by
  unfold mWD
  rw [mBg_sm h, mPr_sm h, mGoI_sm h, mLvK_sm h2]
theorem mWDc_sm {w w1 : qq_w} (h : mSame w w1) (h2 : w1.2 59 = w.2 59) (N : Nat) : mWDc w1 N = mWDc w N := by
  funext c L
  unfold mWDc
  rw [mWD_sm h h2]
theorem mWClF_sm {w w1 : qq_w} (h : mSame w w1) (h2 : w1.2 59 = w.2 59) (h3 : w1.2 60 = w.2 60) : mWClF w1 = mWClF w := by
  funext n d f
  unfold mWClF
  rw [h2, h3, mPr_sm h, mGoI_sm h]
theorem mOwn_sm {w w1 : qq_w} (h : mSame w w1) {N : Nat} (ho : mOwn w N) : mOwn w1 N := by
  unfold mOwn
  rw [h.1 42 (by decide), h.1 39 (by decide), h.1 43 (by decide)]
  exact ho
def mEnN (w : qq_w) (N : Nat) : Prop := ∀ p, p < qn (w.1 8 2) → ∃ m, m < N ∧ w.1 39 p = nI m ∧ w.1 43 m = 0
theorem lq_U : lq (lN 4000000000000000000) = 4000000000000000000 := lq_lN (by omega)
theorem lMin_of {x : Int64} {U : Nat} {D : Nat → Prop} (hU : U < 2 ^ 63) (hU2 : 1000000000000 < U) (hO : ∃ L, x = lN L ∧ (L ≤ 1000000000000 ∨ L = U)) (hS : ∀ L, x = lN L → L ≤ 1000000000000 → D L) (hC : ∀ L, D L → L ≤ 1000000000000 ∧ lq x ≤ L) : lMin x U D := by
  obtain ⟨L, e, z | z⟩ := hO
  · refine Or.inl ⟨L, e, z, hS L e z, fun L' h => ?_⟩
    have := (hC L' h).2
    rw [e, lq_lN (by omega)] at this
    exact this
  · subst z
    refine Or.inr ⟨e, fun L' h => ?_⟩
    have := hC L' h
    rw [e, lq_lN hU] at this
    omega
theorem mL_min {w : qq_w} {N : Nat} (hP : mPW w N) (hEn : mEnN w N) (hO : lOk (w.2 59) 4000000000000000000 10816) (hS : mSnd w (mLDc w)) (h0 : ∀ n d, n < 64 → mEnt w n d → w.2 59 (169 * n + 13 * d + d) = lN 0) (hC : ∀ n d e, n < N → d < 13 → e < 13 → mClF w n d e) {n d e : Nat} (hn : n < 64) (hd : d < 13) (he : e < 13) : lMin (w.2 59 (169 * n + 13 * d + e)) 4000000000000000000 (mLD w n d e) := by
  have hN := hP.2.1
  have key : ∀ n d e L, mLD w n d e L → n < N ∧ d < 13 ∧ e < 13 ∧ L ≤ 1000000000000 ∧ lq (w.2 59 (169 * n + 13 * d + e)) ≤ L := by
    intro n d e L h
    refine h (fun n d e L => n < N ∧ d < 13 ∧ e < 13 ∧ L ≤ 1000000000000 ∧ lq (w.2 59 (169 * n + 13 * d + e)) ≤ L) ?_ ?_ ?_
    · intro n d hn h
      have h' := h
      obtain ⟨q1, ⟨p, q2, q3⟩, -⟩ := h'
      obtain ⟨m, r1, r2, -⟩ := hEn p q2
      have : n = m := (nI_eq (by omega) (by omega)).mp (q3.symm.trans r2)
      subst this
      refine ⟨r1, q1, q1, by omega, ?_⟩
      rw [h0 n d hn h]
      exact Nat.le_refl _
    · intro n d e t g a hn ht h1 h2
      obtain ⟨q1, q2, q3, q4, q5⟩ := h1
      obtain ⟨A, eA, hA⟩ := hO (169 * n + 13 * d + e) (by omega)
      rw [eA, lq_lN (by omega)] at q5
      have z := (hC n d e q1 q2 q3 A eA (by omega)).1 t g ht h2
      have hg : g < 13 := by
        obtain ⟨x', hx', hb'⟩ := h2.2
        exact fs_lt (hP.2.2.2.2.2 n 0 e x' q1 (by omega) q3 hx') hb'
      have htN : t < N := by
        rcases h2.1 with ⟨-, -, k, k1, k2, k3⟩ | ⟨k1, k2⟩
        · obtain ⟨E, hE, eE, hed⟩ := hP.2.2.2.1
          rw [eE, qn_nI (by omega)] at k1
          obtain ⟨a', b', y1, y2, y3, y4⟩ := hed k k1
          have : t = b' := (nI_eq (by omega) (by omega)).mp (k3.symm.trans y4)
          omega
        · obtain ⟨p, r, l, y1, y2, y3, y4, y5, -⟩ := hP.2.2.1 n q1 k1
          have : t = r := (nI_eq (by omega) (by omega)).mp (k2.symm.trans y5)
          omega
      exact ⟨htN, q2, hg, lcap_le _, Nat.le_trans z (lcap_mono (by omega))⟩
    · intro c d e l g h r g' a b hc hl hr h1 h2 h3
      obtain ⟨q1, q2, q3, q4, q5⟩ := h1
      obtain ⟨p1, p2, p3, p4, p5⟩ := h3
      obtain ⟨A, eA, hA⟩ := hO (169 * c + 13 * d + e) (by omega)
      rw [eA, lq_lN (by omega)] at q5
      obtain ⟨B, eB, hB⟩ := hO (169 * l + 13 * g + h) (by omega)
      rw [eB, lq_lN (by omega)] at p5
      have z := (hC c d e q1 q2 q3 A eA (by omega)).2 l g h r g' B hl hr h2 p3 eB (by omega)
      have hg : g' < 13 := by
        obtain ⟨x', hx', hb'⟩ := h2.2.2.2.2
        exact fs_lt (hP.2.2.2.2.2 c 2 h x' q1 (by omega) p3 hx') hb'
      obtain ⟨p, r', l', y1, y2, y3, y4, y5, -⟩ := hP.2.2.1 c q1 h2.1
      have : r = r' := (nI_eq (by omega) (by omega)).mp (h2.2.2.1.symm.trans y5)
      exact ⟨by omega, q2, hg, lcap_le _, Nat.le_trans z (lcap_mono (by omega))⟩
  refine lMin_of (by omega) (by omega) (hO _ (by omega)) (fun L e1 h1 => ?_) (fun L h => (key n d e L h).2.2.2)
  obtain ⟨n', d', e', z1, z2, z3, z4⟩ := hS _ L (by omega) e1 h1
  have : n' = n := by omega
  subst this
  have : d' = d := by omega
  subst this
  have : e' = e := by omega
  subst this
  exact z4
theorem mW_min {w : qq_w} {N : Nat} (hP : mPW w N) (hOw : mOwn w N) (hB0 : ∃ l, l < N ∧ w.1 39 0 = nI l ∧ w.1 43 l = 0) (hO9 : lOk (w.2 59) 4000000000000000000 10816) (hO : lOk (w.2 60) 4000000000000000000 832) (hS : wSnd w (mWDc w N)) (h0 : ∀ n f, n < 64 → mBg w n f → w.2 60 (13 * n + f) = lN 0) (hC : ∀ n d f, n < N → d < 13 → f < 13 → mWClF w n d f) {n f : Nat} (hn : n < 64) (hf : f < 13) : lMin (w.2 60 (13 * n + f)) 4000000000000000000 (mWD w N n f) := by
  have hN := hP.2.1
  have key : ∀ n f L, mWD w N n f L → n < N ∧ f < 13 ∧ L ≤ 1000000000000 ∧ lq (w.2 60 (13 * n + f)) ≤ L ∧ (w.1 43 n = 9 → ∃ m d a b, m < 64 ∧ d < 13 ∧ mPr w n m ∧ w.2 60 (13 * m + d) = lN a ∧ a ≤ 1000000000000 ∧ w.2 59 (169 * n + 13 * d + f) = lN b ∧ b ≤ 1000000000000) := by
    intro n f L h
    refine h (fun n f L => n < N ∧ f < 13 ∧ L ≤ 1000000000000 ∧ lq (w.2 60 (13 * n + f)) ≤ L ∧ (w.1 43 n = 9 → ∃ m d a b, m < 64 ∧ d < 13 ∧ mPr w n m ∧ w.2 60 (13 * m + d) = lN a ∧ a ≤ 1000000000000 ∧ w.2 59 (169 * n + 13 * d + f) = lN b ∧ b ≤ 1000000000000)) ?_ ?_ ?_
    · intro n f hn h
      obtain ⟨l, q1, q2, q3⟩ := hB0
      have : n = l := (nI_eq (by omega) (by omega)).mp (h.2.1.symm.trans q2)
      subst this
      refine ⟨q1, h.1, by omega, ?_, fun z => ?_⟩
      · rw [h0 n f hn h]
        exact Nat.le_refl _
      · rw [q3] at z
        exact absurd z (by decide)
    · intro n m d f a b hn hm h1 h2 h3
      obtain ⟨q1, q2, q3, q4, -⟩ := h2
      obtain ⟨p1, p2, p3, p4, p5⟩ := h3
      obtain ⟨A, eA, hA⟩ := hO (13 * m + d) (by omega)
      rw [eA, lq_lN (by omega)] at q4
      have z := (hC n d f p1 p2 p3 m A b hm h1 eA (by omega) p4 p5).1
      exact ⟨p1, p3, lcap_le _, Nat.le_trans z (lcap_mono (by omega)), fun _ => ⟨m, d, A, b, hm, p2, h1, eA, by omega, p4, p5⟩⟩
    · intro c f m g a hc hm h1 h2
      obtain ⟨q1, q2, q3, q4, q5⟩ := h1
      obtain ⟨m', d, A, b, r1, r2, r3, r4, r5, r6, r7⟩ := q5 h2.1
      have z := (hC c d f q1 r2 q2 m' A b r1 r3 r4 r5 r6 r7).2 m g hm h2
      have hg : g < 13 := by
        obtain ⟨x', hx', hb'⟩ := h2.2.2
        exact fs_lt (hP.2.2.2.2.2 c 1 f x' q1 (by omega) q2 hx') hb'
      obtain ⟨p, r', l', y1, y2, y3, y4, y5, y6, y7, y8, y9, -⟩ := hP.2.2.1 c q1 h2.1
      have e := h2.2.1
      rw [y4, qn_nI (by omega), y6] at e
      have : m = l' := (nI_eq (by omega) (by omega)).mp e.symm
      subst this
      refine ⟨by omega, hg, lcap_le _, Nat.le_trans z (lcap_mono (by omega)), fun y => ?_⟩
      rw [y9] at y
      exact absurd y (by decide)
  refine lMin_of (by omega) (by omega) (hO _ (by omega)) (fun L e1 h1 => ?_) (fun L h => ⟨(key n f L h).2.2.1, (key n f L h).2.2.2.1⟩)
  obtain ⟨n', f', z2, z3, z4⟩ := hS _ L (by omega) e1 h1
  have : n' = n := by omega
  subst this
  have : f' = f := by omega
  subst this
  exact z4
