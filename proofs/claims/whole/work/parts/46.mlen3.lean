/-- a shortest length, or none -/
def lMin (x : Int64) (U : Nat) (D : Nat → Prop) : Prop := (∃ L, x = lN L ∧ L ≤ 1000000000000 ∧ D L ∧ ∀ L', D L' → L ≤ L') ∨ (x = lN U ∧ ∀ L, ¬ D L)
def sumL (f : Nat → Int64) : Nat → Nat
  | 0 => 0
  | n + 1 => sumL f n + lq (f n)
theorem sumL_le {f g : Nat → Int64} (h : ∀ c, lq (f c) ≤ lq (g c)) : ∀ n, sumL f n ≤ sumL g n
  | 0 => Nat.le_refl _
  | n + 1 => Nat.add_le_add (sumL_le h n) (h n)
theorem sumL_lt {f g : Nat → Int64} (h : ∀ c, lq (f c) ≤ lq (g c)) {c : Nat} (hc : lq (f c) < lq (g c)) : ∀ n, c < n → sumL f n < sumL g n
  | 0, z => absurd z (by omega)
  | n + 1, z => by
    by_cases q : c = n
    · subst q; exact Nat.add_lt_add_of_le_of_lt (sumL_le h c) hc
    · exact Nat.add_lt_add_of_lt_of_le (sumL_lt h hc n (by omega)) (h n)
/-- all but the two marks of measuring is as it was -/
def mSame (w w1 : qq_w) : Prop := (∀ q, q ≠ 8 → w1.1 q = w.1 q) ∧ ∀ j, j ≠ 36 → j ≠ 39 → w1.1 8 j = w.1 8 j
theorem mSame_rf {w : qq_w} : mSame w w := ⟨fun _ _ => rfl, fun _ _ _ => rfl⟩
theorem mSame_tr {w w1 w2 : qq_w} (h : mSame w w1) (h2 : mSame w1 w2) : mSame w w2 := ⟨fun q hq => (h2.1 q hq).trans (h.1 q hq), fun j a b => (h2.2 j a b).trans (h.2 j a b)⟩
theorem mSame_sy {w w1 : qq_w} (h : mSame w w1) : mSame w1 w := ⟨fun q hq => (h.1 q hq).symm, fun j a b => (h.2 j a b).symm⟩
theorem mSame_ui {w : qq_w} {k : Nat} {x : Int32} (hk : k = 36 ∨ k = 39) : mSame w (qq_ui w 8 k x) := by
  refine ⟨fun q hq => ?_, fun j a b => ?_⟩
  · show va_up w.1 8 _ q = _
    simp only [va_up, hq, if_false]
  · show upd (w.1 8) k x j = _
    rw [upd_at, if_neg (by omega)]
theorem mRl_same {k M : Nat} {w w' : qq_w} {A : Nat → Nat → Prop} {C : Prop} (h : mRl k M w w' A C) : mSame w w' := ⟨h.1, fun j _ b => h.2.1 j b⟩
theorem mTgt_sm {w w1 : qq_w} (h : mSame w w1) (n p : Nat) (f x : Int32) : mTgt w1 n p f x ↔ mTgt w n p f x := mTgt_congr (fun k hk => h.1 k (fun z => by simp at hk; omega)) (h.2 23 (by decide) (by decide)) n p f x
theorem mF_sm {w w1 : qq_w} (h : mSame w w1) : mF w1 = mF w := by
  funext n p f g
  unfold mF
  simp only [mTgt_sm h]
theorem mEnt_sm {w w1 : qq_w} (h : mSame w w1) : mEnt w1 = mEnt w := by
  funext n d
  unfold mEnt mHolds
  rw [h.2 2 (by decide) (by decide), h.1 39 (by decide), h.1 56 (by decide)]
theorem mStp_sm {w w1 : qq_w} (h : mSame w w1) : mStp w1 = mStp w := by
  funext n e t g
  unfold mStp
  rw [h.2 20 (by decide) (by decide), h.1 43 (by decide), h.1 52 (by decide), h.1 53 (by decide), h.1 49 (by decide), mF_sm h]
theorem mThr_sm {w w1 : qq_w} (h : mSame w w1) : mThr w1 = mThr w := by
  funext c e l g h' r g'
  unfold mThr
  rw [h.1 43 (by decide), h.1 40 (by decide), h.1 47 (by decide), h.1 49 (by decide), mF_sm h]
theorem mLD_sm {w w1 : qq_w} (h : mSame w w1) : mLD w1 = mLD w := by
  unfold mLD
  rw [mEnt_sm h, mStp_sm h, mThr_sm h]
theorem mLDc_sm {w w1 : qq_w} (h : mSame w w1) : mLDc w1 = mLDc w := by
  funext c L
  unfold mLDc
  rw [mLD_sm h]
theorem mClF_sm {w w1 : qq_w} (h : mSame w w1) (h2 : w1.2 59 = w.2 59) : mClF w1 = mClF w := by
  funext n d e
  unfold mClF
  rw [h2, mStp_sm h, mThr_sm h]
theorem mPW_sm {w w1 : qq_w} {N : Nat} (h : mSame w w1) (hP : mPW w N) : mPW w1 N := by
  have s1 : ∀ k, k ∈ [37, 38, 41, 43, 44, 45, 46, 47, 48, 50, 51, 54] → w1.1 k = w.1 k := fun k hk => h.1 k (fun z => by simp at hk; omega)
  obtain ⟨a1, a2, a3, a4, a5, a6⟩ := hP
  refine ⟨by rw [h.2 8 (by decide) (by decide)]; exact a1, a2, ?_, ?_, fun n hn => mFN_congr s1 (a5 n hn), fun n p f x hn hp hf hx => a6 n p f x hn hp hf ((mTgt_sm h n p _ x).mp hx)⟩
  · rw [h.1 39 (by decide), h.1 40 (by decide), h.1 43 (by decide), h.1 47 (by decide), h.1 49 (by decide)]; exact a3
  · rw [h.2 20 (by decide) (by decide), h.1 52 (by decide), h.1 53 (by decide)]; exact a4
theorem mBegin_sm {w w1 : qq_w} (h : mSame w w1) : mBegin w1 = mBegin w := by
  unfold mBegin
  rw [h.2 23 (by decide) (by decide), h.2 25 (by decide) (by decide), h.1 37 (by decide)]
theorem mBg_sm {w w1 : qq_w} (h : mSame w w1) : mBg w1 = mBg w := by
  funext n f
  unfold mBg
  rw [mBegin_sm h, h.1 39 (by decide)]
theorem mPr_sm {w w1 : qq_w} (h : mSame w w1) : mPr w1 = mPr w := by
  funext n f
  unfold mPr
  rw [h.1 39 (by decide), h.1 42 (by decide)]
theorem mGoI_sm {w w1 : qq_w} (h : mSame w w1) : mGoI w1 = mGoI w := by
  funext c f m g
  unfold mGoI
  rw [h.1 39 (by decide), h.1 43 (by decide), h.1 47 (by decide), mF_sm h]
theorem mLvK_sm {w w1 : qq_w} (h2 : w1.2 59 = w.2 59) : mLvK w1 = mLvK w := by
  funext N n d f b
  unfold mLvK
  rw [h2]
theorem mWD_sm {w w1 : qq_w} (h : mSame w w1) (h2 : w1.2 59 = w.2 59) (N : Nat) : mWD w1 N = mWD w N := by
  unfold mWD
  rw [mBg_sm h, mPr_sm h, mGoI_sm h, mLvK_sm h2]
theorem mWDc_sm {w w1 : qq_w} (h : mSame w w1) (h2 : w1.2 59 = w.2 59) (N : Nat) : mWDc w1 N = mWDc w N := by
  funext c L
  unfold mWDc
  rw [mWD_sm h h2]
theorem mWClF_sm {w w1 : qq_w} (h : mSame w w1) (h2 : w1.2 59 = w.2 59) (h3 : w1.2 60 = w.2 60) : mWClF w1 = mWClF w := by
  funext n d f
  unfold mWClF
  rw [h2, h3, mPr_sm h, mGoI_sm h]
theorem mOwn_sm {w w1 : qq_w} (h : mSame w w1) {N : Nat} (ho : mOwn w N) : mOwn w1 N := by
  unfold mOwn
  rw [h.1 42 (by decide), h.1 39 (by decide), h.1 43 (by decide)]
  exact ho
def mEnN (w : qq_w) (N : Nat) : Prop := ∀ p, p < qn (w.1 8 2) → ∃ m, m < N ∧ w.1 39 p = nI m ∧ w.1 43 m = 0
theorem lq_U : lq (lN 4000000000000000000) = 4000000000000000000 := lq_lN (by omega)
theorem lMin_of {x : Int64} {U : Nat} {D : Nat → Prop} (hU : U < 2 ^ 63) (hU2 : 1000000000000 < U) (hO : ∃ L, x = lN L ∧ (L ≤ 1000000000000 ∨ L = U)) (hS : ∀ L, x = lN L → L ≤ 1000000000000 → D L) (hC : ∀ L, D L → L ≤ 1000000000000 ∧ lq x ≤ L) : lMin x U D := by
  obtain ⟨L, e, z | z⟩ := hO
  · refine Or.inl ⟨L, e, z, hS L e z, fun L' h => ?_⟩
    have := (hC L' h).2
    rw [e, lq_lN (by omega)] at this
    exact this
  · subst z
    refine Or.inr ⟨e, fun L' h => ?_⟩
    have := hC L' h
    rw [e, lq_lN hU] at this
    omega
theorem mL_min {w : qq_w} {N : Nat} (hP : mPW w N) (hEn : mEnN w N) (hO : lOk (w.2 59) 4000000000000000000 10816) (hS : mSnd w (mLDc w)) (h0 : ∀ n d, n < 64 → mEnt w n d → w.2 59 (169 * n + 13 * d + d) = lN 0) (hC : ∀ n d e, n < N → d < 13 → e < 13 → mClF w n d e) {n d e : Nat} (hn : n < 64) (hd : d < 13) (he : e < 13) : lMin (w.2 59 (169 * n + 13 * d + e)) 4000000000000000000 (mLD w n d e) := by
  have hN := hP.2.1
  have key : ∀ n d e L, mLD w n d e L → n < N ∧ d < 13 ∧ e < 13 ∧ L ≤ 1000000000000 ∧ lq (w.2 59 (169 * n + 13 * d + e)) ≤ L := by
    intro n d e L h
    refine h (fun n d e L => n < N ∧ d < 13 ∧ e < 13 ∧ L ≤ 1000000000000 ∧ lq (w.2 59 (169 * n + 13 * d + e)) ≤ L) ?_ ?_ ?_
    · intro n d hn h
      have h' := h
      obtain ⟨q1, ⟨p, q2, q3⟩, -⟩ := h'
      obtain ⟨m, r1, r2, -⟩ := hEn p q2
      have : n = m := (nI_eq (by omega) (by omega)).mp (q3.symm.trans r2)
      subst this
      refine ⟨r1, q1, q1, by omega, ?_⟩
      rw [h0 n d hn h]
      exact Nat.le_refl _
    · intro n d e t g a hn ht h1 h2
      obtain ⟨q1, q2, q3, q4, q5⟩ := h1
      obtain ⟨A, eA, hA⟩ := hO (169 * n + 13 * d + e) (by omega)
      rw [eA, lq_lN (by omega)] at q5
      have z := (hC n d e q1 q2 q3 A eA (by omega)).1 t g ht h2
      have hg : g < 13 := by
        obtain ⟨x', hx', hb'⟩ := h2.2
        exact fs_lt (hP.2.2.2.2.2 n 0 e x' q1 (by omega) q3 hx') hb'
      have htN : t < N := by
        rcases h2.1 with ⟨-, -, k, k1, k2, k3⟩ | ⟨k1, k2⟩
        · obtain ⟨E, hE, eE, hed⟩ := hP.2.2.2.1
          rw [eE, qn_nI (by omega)] at k1
          obtain ⟨a', b', y1, y2, y3, y4⟩ := hed k k1
          have : t = b' := (nI_eq (by omega) (by omega)).mp (k3.symm.trans y4)
          omega
        · obtain ⟨p, r, l, y1, y2, y3, y4, y5, -⟩ := hP.2.2.1 n q1 k1
          have : t = r := (nI_eq (by omega) (by omega)).mp (k2.symm.trans y5)
          omega
      exact ⟨htN, q2, hg, lcap_le _, Nat.le_trans z (lcap_mono (by omega))⟩
    · intro c d e l g h r g' a b hc hl hr h1 h2 h3
      obtain ⟨q1, q2, q3, q4, q5⟩ := h1
      obtain ⟨p1, p2, p3, p4, p5⟩ := h3
      obtain ⟨A, eA, hA⟩ := hO (169 * c + 13 * d + e) (by omega)
      rw [eA, lq_lN (by omega)] at q5
      obtain ⟨B, eB, hB⟩ := hO (169 * l + 13 * g + h) (by omega)
      rw [eB, lq_lN (by omega)] at p5
      have z := (hC c d e q1 q2 q3 A eA (by omega)).2 l g h r g' B hl hr h2 p3 eB (by omega)
      have hg : g' < 13 := by
        obtain ⟨x', hx', hb'⟩ := h2.2.2.2.2
        exact fs_lt (hP.2.2.2.2.2 c 2 h x' q1 (by omega) p3 hx') hb'
      obtain ⟨p, r', l', y1, y2, y3, y4, y5, -⟩ := hP.2.2.1 c q1 h2.1
      have : r = r' := (nI_eq (by omega) (by omega)).mp (h2.2.2.1.symm.trans y5)
      exact ⟨by omega, q2, hg, lcap_le _, Nat.le_trans z (lcap_mono (by omega))⟩
  refine lMin_of (by omega) (by omega) (hO _ (by omega)) (fun L e1 h1 => ?_) (fun L h => (key n d e L h).2.2.2)
  obtain ⟨n', d', e', z1, z2, z3, z4⟩ := hS _ L (by omega) e1 h1
  have : n' = n := by omega
  subst this
  have : d' = d := by omega
  subst this
  have : e' = e := by omega
  subst this
  exact z4
theorem mW_min {w : qq_w} {N : Nat} (hP : mPW w N) (hOw : mOwn w N) (hB0 : ∃ l, l < N ∧ w.1 39 0 = nI l ∧ w.1 43 l = 0) (hO9 : lOk (w.2 59) 4000000000000000000 10816) (hO : lOk (w.2 60) 4000000000000000000 832) (hS : wSnd w (mWDc w N)) (h0 : ∀ n f, n < 64 → mBg w n f → w.2 60 (13 * n + f) = lN 0) (hC : ∀ n d f, n < N → d < 13 → f < 13 → mWClF w n d f) {n f : Nat} (hn : n < 64) (hf : f < 13) : lMin (w.2 60 (13 * n + f)) 4000000000000000000 (mWD w N n f) := by
  have hN := hP.2.1
  have key : ∀ n f L, mWD w N n f L → n < N ∧ f < 13 ∧ L ≤ 1000000000000 ∧ lq (w.2 60 (13 * n + f)) ≤ L ∧ (w.1 43 n = 9 → ∃ m d a b, m < 64 ∧ d < 13 ∧ mPr w n m ∧ w.2 60 (13 * m + d) = lN a ∧ a ≤ 1000000000000 ∧ w.2 59 (169 * n + 13 * d + f) = lN b ∧ b ≤ 1000000000000) := by
    intro n f L h
    refine h (fun n f L => n < N ∧ f < 13 ∧ L ≤ 1000000000000 ∧ lq (w.2 60 (13 * n + f)) ≤ L ∧ (w.1 43 n = 9 → ∃ m d a b, m < 64 ∧ d < 13 ∧ mPr w n m ∧ w.2 60 (13 * m + d) = lN a ∧ a ≤ 1000000000000 ∧ w.2 59 (169 * n + 13 * d + f) = lN b ∧ b ≤ 1000000000000)) ?_ ?_ ?_
    · intro n f hn h
      obtain ⟨l, q1, q2, q3⟩ := hB0
      have : n = l := (nI_eq (by omega) (by omega)).mp (h.2.1.symm.trans q2)
      subst this
      refine ⟨q1, h.1, by omega, ?_, fun z => ?_⟩
      · rw [h0 n f hn h]
        exact Nat.le_refl _
      · rw [q3] at z
        exact absurd z (by decide)
    · intro n m d f a b hn hm h1 h2 h3
      obtain ⟨q1, q2, q3, q4, -⟩ := h2
      obtain ⟨p1, p2, p3, p4, p5⟩ := h3
      obtain ⟨A, eA, hA⟩ := hO (13 * m + d) (by omega)
      rw [eA, lq_lN (by omega)] at q4
      have z := (hC n d f p1 p2 p3 m A b hm h1 eA (by omega) p4 p5).1
      exact ⟨p1, p3, lcap_le _, Nat.le_trans z (lcap_mono (by omega)), fun _ => ⟨m, d, A, b, hm, p2, h1, eA, by omega, p4, p5⟩⟩
    · intro c f m g a hc hm h1 h2
      obtain ⟨q1, q2, q3, q4, q5⟩ := h1
      obtain ⟨m', d, A, b, r1, r2, r3, r4, r5, r6, r7⟩ := q5 h2.1
      have z := (hC c d f q1 r2 q2 m' A b r1 r3 r4 r5 r6 r7).2 m g hm h2
      have hg : g < 13 := by
        obtain ⟨x', hx', hb'⟩ := h2.2.2
        exact fs_lt (hP.2.2.2.2.2 c 1 f x' q1 (by omega) q2 hx') hb'
      obtain ⟨p, r', l', y1, y2, y3, y4, y5, y6, y7, y8, y9, -⟩ := hP.2.2.1 c q1 h2.1
      have e := h2.2.1
      rw [y4, qn_nI (by omega), y6] at e
      have : m = l' := (nI_eq (by omega) (by omega)).mp e.symm
      subst this
      refine ⟨by omega, hg, lcap_le _, Nat.le_trans z (lcap_mono (by omega)), fun y => ?_⟩
      rw [y9] at y
      exact absurd y (by decide)
  refine lMin_of (by omega) (by omega) (hO _ (by omega)) (fun L e1 h1 => ?_) (fun L h => ⟨(key n f L h).2.2.1, (key n f L h).2.2.2.1⟩)
  obtain ⟨n', f', z2, z3, z4⟩ := hS _ L (by omega) e1 h1
  have : n' = n := by omega
  subst this
  have : f' = f := by omega
  subst this
  exact z4
abbrev cs_X8_measureWhole : List (Nat × qq_t) := [(1, T_X8_beginning), (4, T_X8_wholeFrom)]
def T_X8_measureWhole : qq_t := fun As w P => match As with
  | [.ref 8] => (mPW w (qn (w.1 8 8)) ∧ mOwn w (qn (w.1 8 8)) ∧ (∃ l, l < qn (w.1 8 8) ∧ w.1 39 0 = nI l ∧ w.1 43 l = 0) ∧ lOk (w.2 59) 4000000000000000000 10816) ∧ ∀ w', mSame w w' → w'.1 8 36 = w.1 8 36 → (∀ q, q ≠ 60 → w'.2 q = w.2 q) → (∀ n f, n < 64 → f < 13 → lMin (w'.2 60 (13 * n + f)) 4000000000000000000 (mWD w (qn (w.1 8 8)) n f)) → P none w'
  | _ => False
def mWst (w : qq_w) (N : Nat) (w1 : qq_w) : Prop := mSame w w1 ∧ w1.1 8 36 = w.1 8 36 ∧ (∀ q, q ≠ 60 → w1.2 q = w.2 q) ∧ lOk (w1.2 60) 4000000000000000000 832 ∧ wSnd w1 (mWDc w N) ∧ ∀ n f, n < 64 → mBg w n f → w1.2 60 (13 * n + f) = lN 0
theorem mWst_go {w w1 w2 : qq_w} {N : Nat} {C : Prop} (h : mWst w N w1) (h2 : mRl 60 832 w1 w2 (mWDc w N) C) : mWst w N w2 := by
  obtain ⟨a1, a2, a3, a4, a5, a6⟩ := h
  refine ⟨mSame_tr a1 (mRl_same h2), (h2.2.1 36 (by decide)).trans a2, fun q hq => (h2.2.2.1 q hq).trans (a3 q hq), mRl_ok h2 a4, wSnd_go h2 a5, fun n f hn hb => ?_⟩
  rcases h2.2.2.2.1 (13 * n + f) with z | ⟨-, z, -⟩
  · rw [z]; exact a6 n f hn hb
  · rw [a6 n f hn hb] at z
    exact absurd z (Nat.not_lt_zero _)
theorem mWst_ui {w w1 : qq_w} {N : Nat} {x : Int32} (h : mWst w N w1) : mWst w N (qq_ui w1 8 39 x) := by
  obtain ⟨a1, a2, a3, a4, a5, a6⟩ := h
  exact ⟨mSame_tr a1 (mSame_ui (Or.inr rfl)), a2, a3, a4, a5, a6⟩
theorem mw_96 {P : Option Value → qq_w → Prop} {K : Nat → qq_L → List Value → qq_w → Prop} (S : qq_Sat ww_sh ww_ro cs_X8_measureWhole (qq_at 132 kd_X8_measureWhole) none P K) {w : qq_w} {N n : Nat} {x1 : Int32} (eN : w.1 8 8 = nI N) (hP : mPW w N) (hOw : mOwn w N) (hO9 : lOk (w.2 59) 4000000000000000000 10816) {wb : qq_w} (hb : mWst w N wb) (e1 : x1 = nI n) (hn : n < N) {C0 : Prop}
    (hk : ∀ w1, mRl 60 832 wb w1 (mWDc w N) (C0 ∧ ∀ d f, d < 13 → f < 13 → mWClF wb n d f) → K 86 [(0, .ref 8), (1, .int (x1 + 1))] [] w1) :
    ∀ m i, i + m = 169 → ∀ (x2 : Int32) (w1 : qq_w), x2 = nI i → mRl 60 832 wb w1 (mWDc w N) (C0 ∧ ∀ k, k < i → mWClF wb n (k / 13) (k % 13)) → K 96 [(0, .ref 8), (1, .int x1), (2, .int x2)] [] w1 := by
  have hN := hP.2.1
  intro m
  induction m with
  | zero =>
    intro i hi x2 w1 e2 h1
    have : i = 169 := by omega
    subst this
    refine qq_go_ok S (fun pc => Nat.beq pc 96 || Nat.beq pc 86) 60 ?_
    conv => whnf
    refine br_t (i_ge 169 e2 (by omega) (by omega)) ?_
    conv => whnf
    refine qq_wk S (hk w1 (mRl_mono h1 (fun _ _ z => z) (fun z => ⟨z.1, fun d f hd hf => ?_⟩))) ⟨rfl, rfl, trivial⟩
    have := z.2 (13 * d + f) (by omega)
    rw [show (13 * d + f) / 13 = d by omega, show (13 * d + f) % 13 = f by omega] at this
    exact this
  | succ m ih =>
    intro i hi x2 w1 e2 h1
    have hs := mWst_go hb h1
    have hsm := hs.1
    have e8 : w1.1 8 8 = nI N := by rw [hsm.2 8 (by decide) (by decide)]; exact eN
    have q8 : qn (w1.1 8 8) = N := by rw [e8]; exact qn_nI (by omega)
    have h59 : w1.2 59 = w.2 59 := hs.2.2.1 59 (by decide)
    have d1 := r_div e2 (by omega)
    have d2 := r_rem e2 (by omega)
    have q1 : qn x1 = n := by rw [e1]; exact qn_nI (by omega)
    have eD := mWDc_sm hsm h59 N
    refine qq_go_ok S (fun pc => Nat.beq pc 96) 60 ?_
    conv => whnf
    refine br_f (i_nge 169 e2 (by omega) (by omega)) ?_
    conv => whnf
    refine ⟨by decide, ?_⟩
    conv => whnf
    refine ⟨by decide, ?_⟩
    conv => whnf
    refine ⟨⟨i_in 64 e1 (by omega) (by decide), i_in 13 d1 (by omega) (by decide), i_in 13 d2 (by omega) (by decide), by rw [q8]; exact mPW_sm hsm hP, by rw [q8]; exact mOwn_sm hsm hOw, by rw [q8, q1]; exact hn, by rw [h59]; exact hO9, hs.2.2.2.1, by rw [q8, eD]; exact hs.2.2.2.2.1⟩, fun w2 h2 => ?_⟩
    conv => whnf
    rw [q8, eD, q1, show qn (x2 / 13) = i / 13 by rw [d1]; exact qn_nI (by omega)] at h2
    have h2 : mRl 60 832 w1 w2 (mWDc w N) (mWClF w1 n (i / 13) (qn (x2 - x2 / 13 * 13))) := h2
    rw [show qn (x2 - x2 / 13 * 13) = i % 13 by rw [d2]; exact qn_nI (by omega)] at h2
    refine qq_wk S (ih (i + 1) (by omega) _ w2 (i_s e2) (mRl_tr h1 h2 (fun z y1 y2 => ⟨y1.1, fun k hk => ?_⟩))) ⟨rfl, rfl, rfl, trivial⟩
    by_cases q : k = i
    · subst q
      rw [mWClF_sm (mRl_same h1) (h1.2.2.1 59 (by decide)) z] at y2
      exact y2
    · exact y1.2 k (by omega)
theorem mw_86 {P : Option Value → qq_w → Prop} {K : Nat → qq_L → List Value → qq_w → Prop} (S : qq_Sat ww_sh ww_ro cs_X8_measureWhole (qq_at 132 kd_X8_measureWhole) none P K) {w : qq_w} {N : Nat} (eN : w.1 8 8 = nI N) (hP : mPW w N) (hOw : mOwn w N) (hO9 : lOk (w.2 59) 4000000000000000000 10816) {wb : qq_w} (hb : mWst w N wb)
    (hk : ∀ w1, mRl 60 832 wb w1 (mWDc w N) (∀ n d f, n < N → d < 13 → f < 13 → mWClF wb n d f) → K 72 [(0, .ref 8)] [] w1) :
    ∀ m i, i + m = N → ∀ (x1 : Int32) (w1 : qq_w), x1 = nI i → mRl 60 832 wb w1 (mWDc w N) (∀ n d f, n < i → d < 13 → f < 13 → mWClF wb n d f) → K 86 [(0, .ref 8), (1, .int x1)] [] w1 := by
  have hN := hP.2.1
  intro m
  induction m with
  | zero =>
    intro i hi x1 w1 e1 h1
    have : i = N := by omega
    subst this
    have e8 : w1.1 8 8 = nI i := by rw [(mWst_go hb h1).1.2 8 (by decide) (by decide)]; exact eN
    refine qq_go_ok S (fun pc => Nat.beq pc 72 || Nat.beq pc 86) 60 ?_
    conv => whnf
    refine br_t (i_ge' e1 e8 (by omega) (by omega)) ?_
    conv => whnf
    exact qq_wk S (hk w1 h1) ⟨rfl, trivial⟩
  | succ m ih =>
    intro i hi x1 w1 e1 h1
    have e8 : w1.1 8 8 = nI N := by rw [(mWst_go hb h1).1.2 8 (by decide) (by decide)]; exact eN
    refine qq_go_ok S (fun pc => Nat.beq pc 96) 60 ?_
    conv => whnf
    refine br_f (i_lt' e1 e8 (by omega) (by omega)) ?_
    conv => whnf
    refine qq_wk S (mw_96 S eN hP hOw hO9 hb e1 (by omega) (C0 := ∀ n d f, n < i → d < 13 → f < 13 → mWClF wb n d f) (fun w2 h2 => ih (i + 1) (by omega) _ w2 (i_s e1) (mRl_mono h2 (fun _ _ z => z) (fun z n d f hn hd hf => ?_))) 169 0 rfl _ w1 rfl (mRl_mono h1 (fun _ _ z => z) (fun z => ⟨z, fun k hk => absurd hk (by omega)⟩))) ⟨rfl, rfl, rfl, trivial⟩
    by_cases q : n = i
    · subst q; exact z.2 d f hd hf
    · exact z.1 n d f (by omega) hd hf
theorem mw_72 {P : Option Value → qq_w → Prop} {K : Nat → qq_L → List Value → qq_w → Prop} (S : qq_Sat ww_sh ww_ro cs_X8_measureWhole (qq_at 132 kd_X8_measureWhole) none P K) {w : qq_w} {N : Nat} (eN : w.1 8 8 = nI N) (hP : mPW w N) (hOw : mOwn w N) (hO9 : lOk (w.2 59) 4000000000000000000 10816)
    (hq : ∀ w1, mWst w N w1 → (∀ n d f, n < N → d < 13 → f < 13 → mWClF w1 n d f) → P none w1) :
    ∀ s, ∀ w1 : qq_w, sumL (w1.2 60) 832 < s → mWst w N w1 → (w1.1 8 39 = 0 → ∀ n d f, n < N → d < 13 → f < 13 → mWClF w1 n d f) → K 72 [(0, .ref 8)] [] w1 := by
  intro s
  induction s with
  | zero => intro w1 h; exact absurd h (Nat.not_lt_zero _)
  | succ s ih =>
    intro w1 hs h1 hc
    refine qq_go_ok S (fun pc => Nat.beq pc 86) 60 ?_
    conv => whnf
    refine ⟨fun h => ?_, fun h => ?_⟩
    · conv => whnf
      exact hq w1 h1 (hc h)
    · conv => whnf
      refine ⟨Or.inl rfl, ?_⟩
      conv => whnf
      refine qq_wk S (mw_86 S eN hP hOw hO9 (wb := qq_ui w1 8 39 0) (mWst_ui h1) (fun w2 h2 => ?_) N 0 (Nat.zero_add _) _ (qq_ui w1 8 39 0) rfl (mRl_rf fun n d f hn => absurd hn (by omega))) ⟨rfl, rfl, trivial⟩
      have hle := mRl_le h2
      have h3 := mWst_go (mWst_ui h1) h2
      rcases h2.2.2.2.2 with ⟨z1, z2, z3⟩ | ⟨z1, c, z2, z3⟩
      · have z2 : w2.1 8 39 = 0 := z2
        refine qq_go_ok S (fun pc => Nat.beq pc 86) 60 ?_
        conv => whnf
        refine br_t z2 ?_
        conv => whnf
        refine hq w2 h3 (fun n d f hn hd hf => ?_)
        rw [mWClF_sm (mRl_same h2) (h2.2.2.1 59 (by decide)) z1]
        exact z3 n d f hn hd hf
      · refine ih w2 (Nat.lt_of_lt_of_le (sumL_lt hle z3 832 z2) (Nat.lt_succ_iff.mp hs)) h3 (fun z => ?_)
        rw [z1] at z
        exact absurd z (by decide)
theorem mw_36 {P : Option Value → qq_w → Prop} {K : Nat → qq_L → List Value → qq_w → Prop} (S : qq_Sat ww_sh ww_ro cs_X8_measureWhole (qq_at 132 kd_X8_measureWhole) none P K) {w1 : qq_w} {x1 b : Int32} {i l : Nat} (e1 : x1 = nI i) (hi : i < 13) (el : w1.1 39 0 = nI l) (hl : l < 64)
    (h1 : bt b i = true → K 26 [(0, .ref 8), (1, .int (x1 + 1))] [] (qq_ul w1 60 (13 * l + i) 0)) (h0 : ¬ bt b i = true → K 26 [(0, .ref 8), (1, .int (x1 + 1))] [] w1) :
    K 36 [(0, .ref 8), (1, .int x1)] [.int b] w1 := by
  have hb : (b >>> (x1 &&& 31)) &&& 1 = 1 ↔ bt b i = true := by rw [e1]; exact b_has1 (by omega) _
  refine qq_go_ok S (fun pc => Nat.beq pc 26) 60 ?_
  conv => whnf
  refine ⟨fun h => ?_, fun h => ?_⟩
  · conv => whnf
    exact qq_wk S (h0 fun z => h (hb.mpr z)) ⟨rfl, rfl, trivial⟩
  · conv => whnf
    refine ⟨i_in 8 (k := 0) rfl (by omega) (by decide), ?_⟩
    conv => whnf
    have el' : w1.1 39 (0 : Int32).toNatClampNeg = nI l := el
    have ec : (13 : Int32) * w1.1 39 (0 : Int32).toNatClampNeg + x1 = nI (13 * l + i) := nI_mr el' e1 (nI_lit 13)
    refine ⟨i_in 832 ec (by omega) (by decide), ?_⟩
    conv => whnf
    have h1 := h1 (hb.mp h)
    rw [← i_c ec (by omega)] at h1
    exact qq_wk S h1 ⟨rfl, rfl, trivial⟩
theorem mw_26 {P : Option Value → qq_w → Prop} {K : Nat → qq_L → List Value → qq_w → Prop} (S : qq_Sat ww_sh ww_ro cs_X8_measureWhole (qq_at 132 kd_X8_measureWhole) none P K) {w : qq_w} {l : Nat} (el : w.1 39 0 = nI l) (hl : l < 64)
    (hk : ∀ w1, w1.1 = w.1 → (∀ q, q ≠ 60 → w1.2 q = w.2 q) → (∀ c, c < 832 → (∃ f, f < 13 ∧ bt (mBegin w) f = true ∧ c = 13 * l + f ∧ w1.2 60 c = lN 0) ∨ ((∀ f, f < 13 → bt (mBegin w) f = true → c ≠ 13 * l + f) ∧ w1.2 60 c = lN 4000000000000000000)) → K 72 [(0, .ref 8)] [] (qq_ui w1 8 39 1)) :
    ∀ m i, i + m = 13 → ∀ (x1 : Int32) (w1 : qq_w), x1 = nI i → w1.1 = w.1 → (∀ q, q ≠ 60 → w1.2 q = w.2 q) → (∀ c, c < 832 → (∃ f, f < i ∧ bt (mBegin w) f = true ∧ c = 13 * l + f ∧ w1.2 60 c = lN 0) ∨ ((∀ f, f < i → bt (mBegin w) f = true → c ≠ 13 * l + f) ∧ w1.2 60 c = lN 4000000000000000000)) → K 26 [(0, .ref 8), (1, .int x1)] [] w1 := by
  intro m
  induction m with
  | zero =>
    intro i hi x1 w1 e1 h1 h2 h3
    have : i = 13 := by omega
    subst this
    refine qq_go_ok S (fun pc => Nat.beq pc 72) 60 ?_
    conv => whnf
    refine br_t (i_ge 13 e1 (by omega) (by omega)) ?_
    conv => whnf
    refine ⟨Or.inr rfl, ?_⟩
    conv => whnf
    exact qq_wk S (hk w1 h1 h2 h3) ⟨rfl, trivial⟩
  | succ m ih =>
    intro i hi x1 w1 e1 h1 h2 h3
    have hb1 : mBegin w1 = mBegin w := mBegin_congr (by rw [h1]) (by rw [h1]) (by rw [h1])
    have key : K 36 [(0, .ref 8), (1, .int x1)] [.int (mBegin w1)] w1 := by
      refine mw_36 S e1 (by omega) (by rw [h1]; exact el) hl (fun z => ih (i + 1) (by omega) _ _ (i_s e1) h1 (fun q hq => ?_) (fun c hc => ?_)) (fun z => ih (i + 1) (by omega) _ _ (i_s e1) h1 h2 (fun c hc => ?_))
      · rw [← h2 q hq]
        show va_up w1.2 60 _ q = _
        simp only [va_up, hq, if_false]
      · rw [hb1] at z
        have e60 : (qq_ul w1 60 (13 * l + i) 0).2 60 c = if c = 13 * l + i then 0 else w1.2 60 c := updL_at _ _ _ _
        rw [e60]
        by_cases q : c = 13 * l + i
        · rw [if_pos q]
          exact Or.inl ⟨i, by omega, z, q, rfl⟩
        · rw [if_neg q]
          rcases h3 c hc with ⟨f, y1, y2⟩ | ⟨y1, y2⟩
          · exact Or.inl ⟨f, by omega, y2⟩
          · refine Or.inr ⟨fun f hf hb => ?_, y2⟩
            by_cases qq : f = i
            · subst qq; exact q
            · exact y1 f (by omega) hb
      · rw [hb1] at z
        rcases h3 c hc with ⟨f, y1, y2⟩ | ⟨y1, y2⟩
        · exact Or.inl ⟨f, by omega, y2⟩
        · refine Or.inr ⟨fun f hf hb => ?_, y2⟩
          by_cases qq : f = i
          · subst qq; exact absurd hb z
          · exact y1 f (by omega) hb
    refine qq_go_ok S (fun pc => Nat.beq pc 26 || Nat.beq pc 36) 60 ?_
    conv => whnf
    refine br_f (i_nge 13 e1 (by omega) (by omega)) ?_
    conv => whnf
    refine ⟨trivial, ?_⟩
    conv => whnf
    exact qq_wk S key ⟨rfl, rfl, trivial⟩
theorem mw_2 {P : Option Value → qq_w → Prop} {K : Nat → qq_L → List Value → qq_w → Prop} (S : qq_Sat ww_sh ww_ro cs_X8_measureWhole (qq_at 132 kd_X8_measureWhole) none P K) {w : qq_w}
    (hk : ∀ w1, w1.1 = w.1 → (∀ q, q ≠ 60 → w1.2 q = w.2 q) → (∀ c, c < 832 → w1.2 60 c = lN 4000000000000000000) → K 26 [(0, .ref 8), (1, .int 0)] [] w1) :
    ∀ m i, i + m = 832 → ∀ (x1 : Int32) (w1 : qq_w), x1 = nI i → w1.1 = w.1 → (∀ q, q ≠ 60 → w1.2 q = w.2 q) → (∀ c, c < i → w1.2 60 c = lN 4000000000000000000) → K 2 [(0, .ref 8), (1, .int x1)] [] w1 := by
  intro m
  induction m with
  | zero =>
    intro i hi x1 w1 e1 h1 h2 h3
    have : i = 832 := by omega
    subst this
    refine qq_go_ok S (fun pc => Nat.beq pc 2 || Nat.beq pc 26) 60 ?_
    conv => whnf
    refine br_t (i_ge 832 e1 (by omega) (by omega)) ?_
    conv => whnf
    exact qq_wk S (hk w1 h1 h2 h3) ⟨rfl, rfl, trivial⟩
  | succ m ih =>
    intro i hi x1 w1 e1 h1 h2 h3
    refine qq_go_ok S (fun pc => Nat.beq pc 2 || Nat.beq pc 26) 60 ?_
    conv => whnf
    refine br_f (i_nge 832 e1 (by omega) (by omega)) ?_
    conv => whnf
    refine ⟨i_in 832 e1 (by omega) (by decide), ?_⟩
    conv => whnf
    refine qq_wk S (ih (i + 1) (by omega) _ _ (i_s e1) h1 (fun q hq => ?_) (fun c hc => ?_)) ⟨rfl, rfl, trivial⟩
    · rw [← h2 q hq]
      show va_up w1.2 60 _ q = _
      simp only [va_up, hq, if_false]
    · show vp_updL (w1.2 60) _ _ c = _
      rw [i_c e1 (by omega), updL_at]
      by_cases q : c = i
      · rw [if_pos q]
        rfl
      · rw [if_neg q]
        exact h3 c (by omega)
set_option maxHeartbeats 4000000 in
set_option maxRecDepth 100000 in
theorem bd_X8_measureWhole : ∀ As w P K, qq_Sat ww_sh ww_ro cs_X8_measureWhole (qq_at 132 kd_X8_measureWhole) none P K → T_X8_measureWhole As w P → K 0 (lv_args 0 As) [] w := by
  intro As w P K S h
  unfold T_X8_measureWhole at h
  split at h
  · skip
    obtain ⟨⟨hP, hOw, ⟨l, hl, el, hk0⟩, hO9⟩, hq⟩ := h
    have hN := hP.2.1
    refine qq_go_ok S (fun pc => Nat.beq pc 2) 60 ?_
    conv => whnf
    refine qq_wk S (mw_2 S (w := w) (fun w1 h1 h2 h3 => ?_) 832 0 rfl _ w rfl rfl (fun _ _ => rfl) (fun c hc => absurd hc (by omega))) ⟨rfl, rfl, trivial⟩
    refine mw_26 S (w := w) el (by omega) (fun w2 k1 k2 k3 => ?_) 13 0 rfl _ w1 rfl h1 h2 (fun c hc => Or.inr ⟨fun f hf => absurd hf (by omega), h3 c hc⟩)
    have s2 : mSame w (qq_ui w2 8 39 1) := mSame_tr ⟨fun q _ => by rw [k1], fun j _ _ => by rw [k1]⟩ (mSame_ui (Or.inr rfl))
    refine mw_72 S (w := w) (N := qn (w.1 8 8)) hP.1 hP hOw hO9 (fun w3 j1 j2 => hq w3 j1.1 j1.2.1 j1.2.2.1 (fun n f hn hf => ?_)) _ _ (Nat.lt_succ_self _) ⟨s2, ?_, k2, ?_, ?_, ?_⟩ (fun z => ?_)
    · have h59 : w3.2 59 = w.2 59 := j1.2.2.1 59 (by decide)
      have := mW_min (N := qn (w.1 8 8)) (mPW_sm j1.1 hP) (mOwn_sm j1.1 hOw) ⟨l, hl, by rw [j1.1.1 39 (by decide)]; exact el, by rw [j1.1.1 43 (by decide)]; exact hk0⟩ (by rw [h59]; exact hO9) j1.2.2.2.1 (by rw [mWDc_sm j1.1 h59]; exact j1.2.2.2.2.1) (fun n f hn hb => j1.2.2.2.2.2 n f hn (by rw [mBg_sm j1.1] at hb; exact hb)) j2 hn hf
      rw [mWD_sm j1.1 h59] at this
      exact this
    · show w2.1 8 36 = _
      rw [k1]
    · intro c hc
      rcases k3 c hc with ⟨f, -, -, -, y⟩ | ⟨-, y⟩
      · exact ⟨0, y, Or.inl (by omega)⟩
      · exact ⟨_, y, Or.inr rfl⟩
    · intro c L hc e hL
      have e : w2.2 60 c = lN L := e
      rcases k3 c hc with ⟨f, y1, y2, y3, y⟩ | ⟨-, y⟩
      · rw [y] at e
        have : 0 = L := (lL_eq (by omega) (by omega)).mp e
        subst this
        exact ⟨l, f, y1, y3, WDer.bg ⟨y1, el, y2⟩ (by omega)⟩
      · rw [y] at e
        have := (lL_eq (by omega) (by omega)).mp e
        omega
    · intro n f hn hb
      have : n = l := (nI_eq (by omega) (by omega)).mp (hb.2.1.symm.trans el)
      subst this
      have hf := hb.1
      rcases k3 (13 * n + f) (by omega) with ⟨f', y1, y2, y3, y⟩ | ⟨y1, y⟩
      · exact y
      · exact absurd rfl (y1 f hb.1 hb.2.2)
    · have z : (1 : Int32) = 0 := z
      exact absurd z (by decide)
  · exact h.elim
theorem ha_X8_measureWhole : ∀ As w P, T_X8_measureWhole As w P → qq_wd As ≤ 3 := by
  intro As w P h
  unfold T_X8_measureWhole at h
  split at h
  · exact Nat.le_of_ble_eq_true rfl
  · exact h.elim
theorem hv_X8_measureWhole : ∀ As w P, T_X8_measureWhole As w P → ∃ (k : Nat) (r : List Value) (fs : List Nat), As = .ref k :: r ∧ ww_sh[k]? = some (.inr (8, fs)) := by
  intro As w P h
  unfold T_X8_measureWhole at h
  split at h
  · exact ⟨_, _, _, rfl, rfl⟩
  · exact h.elim
set_option maxRecDepth 100000 in
theorem M_X8_measureWhole (l : Launch) : qq_M l ww_T ww_N vwCl ww_sh ww_ro ww_zs yX8_measureWhole cX8_measureWhole 3 none (ww_rm 4) T_X8_measureWhole := by
  refine qq_mk (host := RX7) (is := ki_X8_measureWhole) (cs := cs_X8_measureWhole) (by decide) ww_k1 wl_X8 ww_so ww_so2 kc_X8_measureWhole kv_X8_measureWhole kg_X8_measureWhole ?_ ha_X8_measureWhole bd_X8_measureWhole
  intro k i q hi hq
  match k, hi, hq with
  | 0, hi, hq => cases hi; cases hq; exact fun p e s m args below meth c D tys tC ad Q pc X hdg => qq_cV (ci := 8) X ww_gd (M_X8_beginning l) kf_X8_beginning.1 (Or.inl (ww_a5 (i := 222) (w := Cond.methodLink RX8 210 yX8_beginning) rfl rfl)) kf_X8_beginning.2.1 kf_X8_beginning.2.2.1 kf_X8_beginning.2.2.2 ⟨by decide, by decide, by decide +kernel⟩ rfl rfl rfl ⟨by decide, by decide⟩ ⟨Nat.le_refl _, Nat.le_refl _⟩ hv_X8_beginning hdg
  | 1, hi, hq => cases hi; cases hq; exact fun p e s m args below meth c D tys tC ad Q pc X hdg => qq_cV (ci := 8) X ww_gd (M_X8_wholeFrom l) kf_X8_wholeFrom.1 (Or.inl (ww_a6 (i := 82) (w := Cond.methodLink RX8 275 yX8_wholeFrom) rfl rfl)) kf_X8_wholeFrom.2.1 kf_X8_wholeFrom.2.2.1 kf_X8_wholeFrom.2.2.2 ⟨by decide, by decide, by decide +kernel⟩ rfl rfl rfl ⟨by decide, by decide⟩ ⟨Nat.le_refl _, Nat.le_refl _⟩ hv_X8_wholeFrom hdg
  | n + 2, hi, hq => simp [cs_X8_measureWhole] at hq
abbrev cs_X8_measure : List (Nat × qq_t) := [(3, T_X8_holdsAt), (4, T_X8_at), (4, T_X8_stepsFrom), (1, T_X8_measureWhole)]
/-- the reference measures once -/
def mMeas (w w' : qq_w) : Prop := mSame w w' ∧ w'.1 8 36 = 1 ∧ (∀ q, q ≠ 59 → q ≠ 60 → w'.2 q = w.2 q) ∧ (∀ n d e, n < 64 → d < 13 → e < 13 → lMin (w'.2 59 (169 * n + 13 * d + e)) 4000000000000000000 (mLD w' n d e)) ∧ ∀ n f, n < 64 → f < 13 → lMin (w'.2 60 (13 * n + f)) 4000000000000000000 (mWD w' (qn (w'.1 8 8)) n f)
def T_X8_measure : qq_t := fun As w P => match As with
  | [.ref 8] => (w.1 8 36 = 0 → mPW w (qn (w.1 8 8)) ∧ mOwn w (qn (w.1 8 8)) ∧ (∃ l, l < qn (w.1 8 8) ∧ w.1 39 0 = nI l ∧ w.1 43 l = 0) ∧ mEnN w (qn (w.1 8 8)) ∧ vp_in (w.1 8 2) 9) ∧ (¬ w.1 8 36 = 0 → P none w) ∧ (w.1 8 36 = 0 → ∀ w', mMeas w w' → P none w')
  | _ => False
def mLst (w : qq_w) (w1 : qq_w) : Prop := mSame w w1 ∧ w1.1 8 36 = w.1 8 36 ∧ (∀ q, q ≠ 59 → w1.2 q = w.2 q) ∧ lOk (w1.2 59) 4000000000000000000 10816 ∧ mSnd w1 (mLDc w) ∧ ∀ n d, n < 64 → mEnt w n d → w1.2 59 (169 * n + 13 * d + d) = lN 0
theorem mLst_go {w w1 w2 : qq_w} {C : Prop} (h : mLst w w1) (h2 : mRl 59 10816 w1 w2 (mLDc w) C) : mLst w w2 := by
  obtain ⟨a1, a2, a3, a4, a5, a6⟩ := h
  refine ⟨mSame_tr a1 (mRl_same h2), (h2.2.1 36 (by decide)).trans a2, fun q hq => (h2.2.2.1 q hq).trans (a3 q hq), mRl_ok h2 a4, mSnd_go h2 a5, fun n f hn hb => ?_⟩
  rcases h2.2.2.2.1 (169 * n + 13 * f + f) with z | ⟨-, z, -⟩
  · rw [z]; exact a6 n f hn hb
  · rw [a6 n f hn hb] at z
    exact absurd z (Nat.not_lt_zero _)
theorem mLst_ui {w w1 : qq_w} {x : Int32} (h : mLst w w1) : mLst w (qq_ui w1 8 39 x) := by
  obtain ⟨a1, a2, a3, a4, a5, a6⟩ := h
  exact ⟨mSame_tr a1 (mSame_ui (Or.inr rfl)), a2, a3, a4, a5, a6⟩
theorem ms_128 {P : Option Value → qq_w → Prop} {K : Nat → qq_L → List Value → qq_w → Prop} (S : qq_Sat ww_sh ww_ro cs_X8_measure (qq_at 168 kd_X8_measure) none P K) {w : qq_w} {N n : Nat} {x1 : Int32} (eN : w.1 8 8 = nI N) (hP : mPW w N) {wb : qq_w} (hb : mLst w wb) (e1 : x1 = nI n) (hn : n < N) {C0 : Prop}
    (hk : ∀ w1, mRl 59 10816 wb w1 (mLDc w) (C0 ∧ ∀ d f, d < 13 → f < 13 → mClF wb n d f) → K 118 [(0, .ref 8), (1, .int (x1 + 1))] [] w1) :
    ∀ m i, i + m = 169 → ∀ (x2 : Int32) (w1 : qq_w), x2 = nI i → mRl 59 10816 wb w1 (mLDc w) (C0 ∧ ∀ k, k < i → mClF wb n (k / 13) (k % 13)) → K 128 [(0, .ref 8), (1, .int x1), (2, .int x2)] [] w1 := by
  have hN := hP.2.1
  intro m
  induction m with
  | zero =>
    intro i hi x2 w1 e2 h1
    have : i = 169 := by omega
    subst this
    refine qq_go_ok S (fun pc => Nat.beq pc 128 || Nat.beq pc 118) 60 ?_
    conv => whnf
    refine br_t (i_ge 169 e2 (by omega) (by omega)) ?_
    conv => whnf
    refine qq_wk S (hk w1 (mRl_mono h1 (fun _ _ z => z) (fun z => ⟨z.1, fun d f hd hf => ?_⟩))) ⟨rfl, rfl, trivial⟩
    have := z.2 (13 * d + f) (by omega)
    rw [show (13 * d + f) / 13 = d by omega, show (13 * d + f) % 13 = f by omega] at this
    exact this
  | succ m ih =>
    intro i hi x2 w1 e2 h1
    have hs := mLst_go hb h1
    have hsm := hs.1
    have e8 : w1.1 8 8 = nI N := by rw [hsm.2 8 (by decide) (by decide)]; exact eN
    have q8 : qn (w1.1 8 8) = N := by rw [e8]; exact qn_nI (by omega)
    have d1 := r_div e2 (by omega)
    have d2 := r_rem e2 (by omega)
    have q1 : qn x1 = n := by rw [e1]; exact qn_nI (by omega)
    have eD := mLDc_sm hsm
    refine qq_go_ok S (fun pc => Nat.beq pc 128) 60 ?_
    conv => whnf
    refine br_f (i_nge 169 e2 (by omega) (by omega)) ?_
    conv => whnf
    refine ⟨by decide, ?_⟩
    conv => whnf
    refine ⟨by decide, ?_⟩
    conv => whnf
    refine ⟨⟨i_in 64 e1 (by omega) (by decide), i_in 13 d1 (by omega) (by decide), i_in 13 d2 (by omega) (by decide), by rw [q8]; exact mPW_sm hsm hP, by rw [q8, q1]; exact hn, hs.2.2.2.1, by rw [eD]; exact hs.2.2.2.2.1⟩, fun w2 h2 => ?_⟩
    conv => whnf
    rw [eD, q1, show qn (x2 / 13) = i / 13 by rw [d1]; exact qn_nI (by omega)] at h2
    have h2 : mRl 59 10816 w1 w2 (mLDc w) (mClF w1 n (i / 13) (qn (x2 - x2 / 13 * 13))) := h2
    rw [show qn (x2 - x2 / 13 * 13) = i % 13 by rw [d2]; exact qn_nI (by omega)] at h2
    refine qq_wk S (ih (i + 1) (by omega) _ w2 (i_s e2) (mRl_tr h1 h2 (fun z y1 y2 => ⟨y1.1, fun k hk => ?_⟩))) ⟨rfl, rfl, rfl, trivial⟩
    by_cases q : k = i
    · subst q
      rw [mClF_sm (mRl_same h1) z] at y2
      exact y2
    · exact y1.2 k (by omega)
theorem ms_118 {P : Option Value → qq_w → Prop} {K : Nat → qq_L → List Value → qq_w → Prop} (S : qq_Sat ww_sh ww_ro cs_X8_measure (qq_at 168 kd_X8_measure) none P K) {w : qq_w} {N : Nat} (eN : w.1 8 8 = nI N) (hP : mPW w N) {wb : qq_w} (hb : mLst w wb)
    (hk : ∀ w1, mRl 59 10816 wb w1 (mLDc w) (∀ n d f, n < N → d < 13 → f < 13 → mClF wb n d f) → K 104 [(0, .ref 8)] [] w1) :
    ∀ m i, i + m = N → ∀ (x1 : Int32) (w1 : qq_w), x1 = nI i → mRl 59 10816 wb w1 (mLDc w) (∀ n d f, n < i → d < 13 → f < 13 → mClF wb n d f) → K 118 [(0, .ref 8), (1, .int x1)] [] w1 := by
  have hN := hP.2.1
  intro m
  induction m with
  | zero =>
    intro i hi x1 w1 e1 h1
    have : i = N := by omega
    subst this
    have e8 : w1.1 8 8 = nI i := by rw [(mLst_go hb h1).1.2 8 (by decide) (by decide)]; exact eN
    refine qq_go_ok S (fun pc => Nat.beq pc 104 || Nat.beq pc 118) 60 ?_
    conv => whnf
    refine br_t (i_ge' e1 e8 (by omega) (by omega)) ?_
    conv => whnf
    exact qq_wk S (hk w1 h1) ⟨rfl, trivial⟩
  | succ m ih =>
    intro i hi x1 w1 e1 h1
    have e8 : w1.1 8 8 = nI N := by rw [(mLst_go hb h1).1.2 8 (by decide) (by decide)]; exact eN
    refine qq_go_ok S (fun pc => Nat.beq pc 128) 60 ?_
    conv => whnf
    refine br_f (i_lt' e1 e8 (by omega) (by omega)) ?_
    conv => whnf
    refine qq_wk S (ms_128 S eN hP hb e1 (by omega) (C0 := ∀ n d f, n < i → d < 13 → f < 13 → mClF wb n d f) (fun w2 h2 => ih (i + 1) (by omega) _ w2 (i_s e1) (mRl_mono h2 (fun _ _ z => z) (fun z n d f hn hd hf => ?_))) 169 0 rfl _ w1 rfl (mRl_mono h1 (fun _ _ z => z) (fun z => ⟨z, fun k hk => absurd hk (by omega)⟩))) ⟨rfl, rfl, rfl, trivial⟩
    by_cases q : n = i
    · subst q; exact z.2 d f hd hf
    · exact z.1 n d f (by omega) hd hf
theorem ms_104 {P : Option Value → qq_w → Prop} {K : Nat → qq_L → List Value → qq_w → Prop} (S : qq_Sat ww_sh ww_ro cs_X8_measure (qq_at 168 kd_X8_measure) none P K) {w : qq_w} {N : Nat} (eN : w.1 8 8 = nI N) (hP : mPW w N)
    (hk : ∀ w1, mLst w w1 → (∀ n d f, n < N → d < 13 → f < 13 → mClF w1 n d f) → K 163 [(0, .ref 8)] [] w1) :
    ∀ s, ∀ w1 : qq_w, sumL (w1.2 59) 10816 < s → mLst w w1 → (w1.1 8 39 = 0 → ∀ n d f, n < N → d < 13 → f < 13 → mClF w1 n d f) → K 104 [(0, .ref 8)] [] w1 := by
  intro s
  induction s with
  | zero => intro w1 h; exact absurd h (Nat.not_lt_zero _)
  | succ s ih =>
    intro w1 hs h1 hc
    refine qq_go_ok S (fun pc => Nat.beq pc 118 || Nat.beq pc 163) 60 ?_
    conv => whnf
    refine ⟨fun h => ?_, fun h => ?_⟩
    · conv => whnf
      exact qq_wk S (hk w1 h1 (hc h)) ⟨rfl, trivial⟩
    · conv => whnf
      refine ⟨Or.inl rfl, ?_⟩
      conv => whnf
      refine qq_wk S (ms_118 S eN hP (wb := qq_ui w1 8 39 0) (mLst_ui h1) (fun w2 h2 => ?_) N 0 (Nat.zero_add _) _ (qq_ui w1 8 39 0) rfl (mRl_rf fun n d f hn => absurd hn (by omega))) ⟨rfl, rfl, trivial⟩
      have hle := mRl_le h2
      have h3 := mLst_go (mLst_ui h1) h2
      rcases h2.2.2.2.2 with ⟨z1, z2, z3⟩ | ⟨z1, c, z2, z3⟩
      · have z2 : w2.1 8 39 = 0 := z2
        refine qq_go_ok S (fun pc => Nat.beq pc 118 || Nat.beq pc 163) 60 ?_
        conv => whnf
        refine br_t z2 ?_
        conv => whnf
        refine qq_wk S (hk w2 h3 (fun n d f hn hd hf => ?_)) ⟨rfl, trivial⟩
        rw [mClF_sm (mRl_same h2) z1]
        exact z3 n d f hn hd hf
      · refine ih w2 (Nat.lt_of_lt_of_le (sumL_lt hle z3 10816 z2) (Nat.lt_succ_iff.mp hs)) h3 (fun z => ?_)
        rw [z1] at z
        exact absurd z (by decide)
def mLi (w : qq_w) (R : Nat → Prop) (w1 : qq_w) : Prop := w1.1 = w.1 ∧ (∀ q, q ≠ 59 → w1.2 q = w.2 q) ∧ ∀ c, c < 10816 → (R c ∧ w1.2 59 c = lN 0) ∨ (¬ R c ∧ w1.2 59 c = lN 4000000000000000000)
theorem ms_49 {P : Option Value → qq_w → Prop} {K : Nat → qq_L → List Value → qq_w → Prop} (S : qq_Sat ww_sh ww_ro cs_X8_measure (qq_at 168 kd_X8_measure) none P K) {w : qq_w} {x1 : Int32} {p l : Nat} (e1 : x1 = nI p) (hp : p < 8) (el : w.1 39 p = nI l) (hl : l < 64) {R : Nat → Prop}
    (hk : ∀ w1, mLi w (fun c => R c ∨ ∃ d, d < 13 ∧ mHolds w l d ∧ c = 169 * l + 13 * d + d) w1 → K 39 [(0, .ref 8), (1, .int (x1 + 1))] [] w1) :
    ∀ m i, i + m = 13 → ∀ (x2 : Int32) (w1 : qq_w), x2 = nI i → mLi w (fun c => R c ∨ ∃ d, d < i ∧ mHolds w l d ∧ c = 169 * l + 13 * d + d) w1 → K 49 [(0, .ref 8), (1, .int x1), (2, .int x2)] [] w1 := by
  intro m
  induction m with
  | zero =>
    intro i hi x2 w1 e2 h1
    have : i = 13 := by omega
    subst this
    refine qq_go_ok S (fun pc => Nat.beq pc 49 || Nat.beq pc 39) 60 ?_
    conv => whnf
    refine br_t (i_ge 13 e2 (by omega) (by omega)) ?_
    conv => whnf
    exact qq_wk S (hk w1 h1) ⟨rfl, rfl, trivial⟩
  | succ m ih =>
    intro i hi x2 w1 e2 h1
    have o39 : w1.1 39 x1.toNatClampNeg = nI l := by rw [h1.1, i_c e1 (by omega)]; exact el
    have ql : qn (w1.1 39 x1.toNatClampNeg) = l := by rw [o39]; exact qn_nI (by omega)
    have qi : qn x2 = i := by rw [e2]; exact qn_nI (by omega)
    have ec : (169 : Int32) * w1.1 39 x1.toNatClampNeg + 13 * x2 + x2 = nI (169 * l + 13 * i + i) := nI_at o39 e2 e2
    refine qq_go_ok S (fun pc => Nat.beq pc 49) 60 ?_
    conv => whnf
    refine br_f (i_nge 13 e2 (by omega) (by omega)) ?_
    conv => whnf
    refine ⟨i_in 8 e1 (by omega) (by decide), ?_⟩
    conv => whnf
    refine ⟨⟨i_in 64 o39 hl (by decide), i_in 13 e2 (by omega) (by decide)⟩, fun h => ?_, fun h => ?_⟩
    · have h : mHolds w1 (qn (w1.1 39 x1.toNatClampNeg)) (qn x2) := h
      rw [ql, qi] at h
      have h : mHolds w l i := by unfold mHolds at h ⊢; rw [h1.1] at h; exact h
      conv => whnf
      refine br_f (by decide) ?_
      conv => whnf
      refine ⟨i_in 8 e1 (by omega) (by decide), ?_⟩
      conv => whnf
      refine ⟨i_in 10816 ec (by omega) (by decide), ?_⟩
      conv => whnf
      refine qq_wk S (ih (i + 1) (by omega) _ (qq_ul w1 59 ((169 : Int32) * w1.1 39 x1.toNatClampNeg + 13 * x2 + x2).toNatClampNeg 0) (i_s e2) ⟨h1.1, fun q hq => ?_, fun c hc => ?_⟩) ⟨rfl, rfl, rfl, trivial⟩
      · rw [← h1.2.1 q hq]
        show va_up w1.2 59 _ q = _
        simp only [va_up, hq, if_false]
      · have e59 : (qq_ul w1 59 ((169 : Int32) * w1.1 39 x1.toNatClampNeg + 13 * x2 + x2).toNatClampNeg 0).2 59 c = if c = 169 * l + 13 * i + i then 0 else w1.2 59 c := by rw [i_c ec (by omega)]; exact updL_at _ _ _ _
        rw [e59]
        by_cases q : c = 169 * l + 13 * i + i
        · rw [if_pos q]
          exact Or.inl ⟨Or.inr ⟨i, by omega, h, q⟩, rfl⟩
        · rw [if_neg q]
          rcases h1.2.2 c hc with ⟨z | ⟨d, z1, z2, z3⟩, y⟩ | ⟨z, y⟩
          · exact Or.inl ⟨Or.inl z, y⟩
          · exact Or.inl ⟨Or.inr ⟨d, by omega, z2, z3⟩, y⟩
          · refine Or.inr ⟨fun t => ?_, y⟩
            rcases t with t | ⟨d, t1, t2, t3⟩
            · exact z (Or.inl t)
            · by_cases qq : d = i
              · subst qq; exact q t3
              · exact z (Or.inr ⟨d, by omega, t2, t3⟩)
    · have h : ¬ mHolds w1 (qn (w1.1 39 x1.toNatClampNeg)) (qn x2) := h
      rw [ql, qi] at h
      have h : ¬ mHolds w l i := by unfold mHolds at h ⊢; rw [h1.1] at h; exact h
      conv => whnf
      refine br_t rfl ?_
      conv => whnf
      refine qq_wk S (ih (i + 1) (by omega) _ w1 (i_s e2) ⟨h1.1, h1.2.1, fun c hc => ?_⟩) ⟨rfl, rfl, rfl, trivial⟩
      rcases h1.2.2 c hc with ⟨z | ⟨d, z1, z2, z3⟩, y⟩ | ⟨z, y⟩
      · exact Or.inl ⟨Or.inl z, y⟩
      · exact Or.inl ⟨Or.inr ⟨d, by omega, z2, z3⟩, y⟩
      · refine Or.inr ⟨fun t => ?_, y⟩
        rcases t with t | ⟨d, t1, t2, t3⟩
        · exact z (Or.inl t)
        · by_cases qq : d = i
          · subst qq; exact h t2
          · exact z (Or.inr ⟨d, by omega, t2, t3⟩)
theorem ms_39 {P : Option Value → qq_w → Prop} {K : Nat → qq_L → List Value → qq_w → Prop} (S : qq_Sat ww_sh ww_ro cs_X8_measure (qq_at 168 kd_X8_measure) none P K) {w : qq_w} {M N : Nat} (eM : w.1 8 2 = nI M) (hM : M ≤ 8) (hN : N ≤ 64) (hEn : ∀ p, p < M → ∃ m, m < N ∧ w.1 39 p = nI m)
    (hk : ∀ w1, mLi w (fun c => ∃ p l d, p < M ∧ l < 64 ∧ w.1 39 p = nI l ∧ d < 13 ∧ mHolds w l d ∧ c = 169 * l + 13 * d + d) w1 → K 104 [(0, .ref 8)] [] (qq_ui w1 8 39 1)) :
    ∀ m i, i + m = M → ∀ (x1 : Int32) (w1 : qq_w), x1 = nI i → mLi w (fun c => ∃ p l d, p < i ∧ l < 64 ∧ w.1 39 p = nI l ∧ d < 13 ∧ mHolds w l d ∧ c = 169 * l + 13 * d + d) w1 → K 39 [(0, .ref 8), (1, .int x1)] [] w1 := by
  intro m
  induction m with
  | zero =>
    intro i hi x1 w1 e1 h1
    have : i = M := by omega
    subst this
    have e8 : w1.1 8 2 = nI i := by rw [h1.1]; exact eM
    refine qq_go_ok S (fun pc => Nat.beq pc 39 || Nat.beq pc 104) 60 ?_
    conv => whnf
    refine br_t (i_ge' e1 e8 (by omega) (by omega)) ?_
    conv => whnf
    refine ⟨Or.inr rfl, ?_⟩
    conv => whnf
    exact qq_wk S (hk w1 h1) ⟨rfl, trivial⟩
  | succ m ih =>
    intro i hi x1 w1 e1 h1
    have e8 : w1.1 8 2 = nI M := by rw [h1.1]; exact eM
    obtain ⟨l, hl, el⟩ := hEn i (by omega)
    refine qq_go_ok S (fun pc => Nat.beq pc 49) 60 ?_
    conv => whnf
    refine br_f (i_lt' e1 e8 (by omega) (by omega)) ?_
    conv => whnf
    refine qq_wk S (ms_49 S (w := w) (l := l) e1 (by omega) el (by omega) (R := fun c => ∃ p l d, p < i ∧ l < 64 ∧ w.1 39 p = nI l ∧ d < 13 ∧ mHolds w l d ∧ c = 169 * l + 13 * d + d) (fun w2 h2 => ih (i + 1) (by omega) _ w2 (i_s e1) ⟨h2.1, h2.2.1, fun c hc => ?_⟩) 13 0 rfl _ w1 rfl ⟨h1.1, h1.2.1, fun c hc => ?_⟩) ⟨rfl, rfl, rfl, trivial⟩
    · rcases h2.2.2 c hc with ⟨⟨p, l', d, z1, z2⟩ | ⟨d, z1, z2, z3⟩, y⟩ | ⟨z, y⟩
      · exact Or.inl ⟨⟨p, l', d, by omega, z2⟩, y⟩
      · exact Or.inl ⟨⟨i, l, d, by omega, by omega, el, z1, z2, z3⟩, y⟩
      · refine Or.inr ⟨fun t => ?_, y⟩
        obtain ⟨p, l', d, t1, t2, t3, t4, t5, t6⟩ := t
        by_cases qq : p = i
        · subst qq
          have : l' = l := (nI_eq (by omega) (by omega)).mp (t3.symm.trans el)
          subst this
          exact z (Or.inr ⟨d, t4, t5, t6⟩)
        · exact z (Or.inl ⟨p, l', d, by omega, t2, t3, t4, t5, t6⟩)
    · rcases h1.2.2 c hc with ⟨z, y⟩ | ⟨z, y⟩
      · exact Or.inl ⟨Or.inl z, y⟩
      · refine Or.inr ⟨fun t => ?_, y⟩
        rcases t with t | ⟨d, t1, -⟩
        · exact z t
        · exact absurd t1 (by omega)
theorem ms_15 {P : Option Value → qq_w → Prop} {K : Nat → qq_L → List Value → qq_w → Prop} (S : qq_Sat ww_sh ww_ro cs_X8_measure (qq_at 168 kd_X8_measure) none P K) {w : qq_w}
    (hk : ∀ w1, w1.1 = w.1 → (∀ q, q ≠ 59 → w1.2 q = w.2 q) → (∀ c, c < 10816 → w1.2 59 c = lN 4000000000000000000) → K 39 [(0, .ref 8), (1, .int 0)] [] w1) :
    ∀ m i, i + m = 10816 → ∀ (x1 : Int32) (w1 : qq_w), x1 = nI i → w1.1 = w.1 → (∀ q, q ≠ 59 → w1.2 q = w.2 q) → (∀ c, c < i → w1.2 59 c = lN 4000000000000000000) → K 15 [(0, .ref 8), (1, .int x1)] [] w1 := by
  intro m
  induction m with
  | zero =>
    intro i hi x1 w1 e1 h1 h2 h3
    have : i = 10816 := by omega
    subst this
    refine qq_go_ok S (fun pc => Nat.beq pc 15 || Nat.beq pc 39) 60 ?_
    conv => whnf
    refine br_t (i_ge 10816 e1 (by omega) (by omega)) ?_
    conv => whnf
    exact qq_wk S (hk w1 h1 h2 h3) ⟨rfl, rfl, trivial⟩
  | succ m ih =>
    intro i hi x1 w1 e1 h1 h2 h3
    refine qq_go_ok S (fun pc => Nat.beq pc 15 || Nat.beq pc 39) 60 ?_
    conv => whnf
    refine br_f (i_nge 10816 e1 (by omega) (by omega)) ?_
    conv => whnf
    refine ⟨i_in 10816 e1 (by omega) (by decide), ?_⟩
    conv => whnf
    refine qq_wk S (ih (i + 1) (by omega) _ _ (i_s e1) h1 (fun q hq => ?_) (fun c hc => ?_)) ⟨rfl, rfl, trivial⟩
    · rw [← h2 q hq]
      show va_up w1.2 59 _ q = _
      simp only [va_up, hq, if_false]
    · show vp_updL (w1.2 59) _ _ c = _
      rw [i_c e1 (by omega), updL_at]
      by_cases q : c = i
      · rw [if_pos q]
        rfl
      · rw [if_neg q]
        exact h3 c (by omega)
set_option maxHeartbeats 4000000 in
set_option maxRecDepth 100000 in
theorem bd_X8_measure : ∀ As w P K, qq_Sat ww_sh ww_ro cs_X8_measure (qq_at 168 kd_X8_measure) none P K → T_X8_measure As w P → K 0 (lv_args 0 As) [] w := by
  intro As w P K S h
  unfold T_X8_measure at h
  split at h
  · skip
    obtain ⟨hpre, hq1, hq0⟩ := h
    refine qq_go_ok S (fun pc => Nat.beq pc 15) 60 ?_
    conv => whnf
    refine ⟨fun h => ?_, fun h => ?_⟩
    · have h : w.1 8 36 = 0 := h
      have hq0 := hq0 h
      obtain ⟨hP, hOw, ⟨l, hl, el, hk0⟩, hEn, hpr⟩ := hpre h
      have hN := hP.2.1
      obtain ⟨eM, hM⟩ := qn_eq hpr (by decide)
      conv => whnf
      refine ⟨Or.inr rfl, ?_⟩
      conv => whnf
      have s0 : mSame w (qq_ui w 8 36 1) := mSame_ui (Or.inl rfl)
      generalize hwa : qq_ui w 8 36 1 = wa at s0
      have e36 : wa.1 8 36 = 1 := by rw [← hwa]; rfl
      have ePl : wa.2 = w.2 := by rw [← hwa]; rfl
      have eN : wa.1 8 8 = nI (qn (w.1 8 8)) := by rw [s0.2 8 (by decide) (by decide)]; exact hP.1
      have hPa := mPW_sm s0 hP
      refine qq_wk S (ms_15 S (w := wa) (fun w1 h1 h2 h3 => ?_) 10816 0 rfl _ wa rfl rfl (fun _ _ => rfl) (fun c hc => absurd hc (by omega))) ⟨rfl, rfl, trivial⟩
      refine ms_39 S (w := wa) (M := qn (w.1 8 2)) (N := qn (w.1 8 8)) (by rw [s0.2 2 (by decide) (by decide)]; exact eM) (by omega) hN (fun p hp => ?_) (fun w2 k => ?_) (qn (w.1 8 2)) 0 (Nat.zero_add _) _ w1 rfl ⟨h1, h2, fun c hc => Or.inr ⟨?_, h3 c hc⟩⟩
      · obtain ⟨m, r1, r2, -⟩ := hEn p hp
        exact ⟨m, r1, by rw [s0.1 39 (by decide)]; exact r2⟩
      · obtain ⟨k1, k2, k3⟩ := k
        have s2 : mSame wa (qq_ui w2 8 39 1) := mSame_tr ⟨fun q _ => by rw [k1], fun j _ _ => by rw [k1]⟩ (mSame_ui (Or.inr rfl))
        refine ms_104 S (w := wa) (N := qn (w.1 8 8)) eN hPa (fun w3 j1 j2 => ?_) _ _ (Nat.lt_succ_self _) ⟨s2, ?_, k2, ?_, ?_, ?_⟩ (fun z => ?_)
        · have s3 : mSame w w3 := mSame_tr s0 j1.1
          have q8 : qn (w3.1 8 8) = qn (w.1 8 8) := by rw [s3.2 8 (by decide) (by decide)]
          have hP3 := mPW_sm s3 hP
          have hEn3 : mEnN w3 (qn (w.1 8 8)) := by
            unfold mEnN
            rw [s3.2 2 (by decide) (by decide), s3.1 39 (by decide), s3.1 43 (by decide)]
            exact hEn
          refine qq_go_ok S (fun _ => false) 60 ?_
          conv => whnf
          refine ⟨⟨by rw [q8]; exact hP3, by rw [q8]; exact mOwn_sm s3 hOw, ⟨l, by rw [q8]; exact hl, by rw [s3.1 39 (by decide)]; exact el, by rw [s3.1 43 (by decide)]; exact hk0⟩, j1.2.2.2.1⟩, fun w4 g1 g2 g3 g4 => ?_⟩
          conv => whnf
          have h59 : w4.2 59 = w3.2 59 := g3 59 (by decide)
          refine hq0 w4 ⟨mSame_tr s3 g1, ?_, fun q hq hq' => ?_, fun n d e hn hd he => ?_, fun n f hn hf => ?_⟩
          · rw [g2, j1.2.1, e36]
          · rw [g3 q hq', j1.2.2.1 q hq, ePl]
          · rw [h59, mLD_sm g1]
            exact mL_min hP3 hEn3 j1.2.2.2.1 (by rw [mLDc_sm j1.1]; exact j1.2.2.2.2.1) (fun n d hn hb => j1.2.2.2.2.2 n d hn (by rw [mEnt_sm j1.1] at hb; exact hb)) j2 hn hd he
          · rw [mWD_sm g1 h59, g1.2 8 (by decide) (by decide)]
            exact g4 n f hn hf
        · show w2.1 8 36 = _
          rw [k1]
        · intro c hc
          rcases k3 c hc with ⟨-, y⟩ | ⟨-, y⟩
          · exact ⟨0, y, Or.inl (by omega)⟩
          · exact ⟨_, y, Or.inr rfl⟩
        · intro c L hc e hL
          have e : w2.2 59 c = lN L := e
          rcases k3 c hc with ⟨⟨p, l', d, y1, y2, y3, y4, y5, y6⟩, y⟩ | ⟨-, y⟩
          · rw [y] at e
            have : 0 = L := (lL_eq (by omega) (by omega)).mp e
            subst this
            refine ⟨l', d, d, y4, y4, y6, LDer.ent ⟨y4, ⟨p, ?_, y3⟩, y5⟩ y2⟩
            rw [s0.2 2 (by decide) (by decide)]
            exact y1
          · rw [y] at e
            have := (lL_eq (by omega) (by omega)).mp e
            omega
        · intro n d hn hb
          obtain ⟨b1, ⟨p, b2, b3⟩, b4⟩ := hb
          rw [s0.2 2 (by decide) (by decide)] at b2
          rcases k3 (169 * n + 13 * d + d) (by omega) with ⟨-, y⟩ | ⟨y1, y⟩
          · exact y
          · exact absurd ⟨p, n, d, b2, hn, b3, b1, b4, rfl⟩ y1
        · have z : (1 : Int32) = 0 := z
          exact absurd z (by decide)
      · rintro ⟨p, l', d, z, -⟩
        exact absurd z (by omega)
    · conv => whnf
      exact hq1 h
  · exact h.elim
theorem ha_X8_measure : ∀ As w P, T_X8_measure As w P → qq_wd As ≤ 3 := by
  intro As w P h
  unfold T_X8_measure at h
  split at h
  · exact Nat.le_of_ble_eq_true rfl
  · exact h.elim
theorem hv_X8_measure : ∀ As w P, T_X8_measure As w P → ∃ (k : Nat) (r : List Value) (fs : List Nat), As = .ref k :: r ∧ ww_sh[k]? = some (.inr (8, fs)) := by
  intro As w P h
  unfold T_X8_measure at h
  split at h
  · exact ⟨_, _, _, rfl, rfl⟩
  · exact h.elim
set_option maxRecDepth 100000 in
theorem M_X8_measure (l : Launch) : qq_M l ww_T ww_N vwCl ww_sh ww_ro ww_zs yX8_measure cX8_measure 3 none (ww_rm 5) T_X8_measure := by
  refine qq_mk (host := RX7) (is := ki_X8_measure) (cs := cs_X8_measure) (by decide) ww_k1 wl_X8 ww_so ww_so2 kc_X8_measure kv_X8_measure kg_X8_measure ?_ ha_X8_measure bd_X8_measure
  intro k i q hi hq
  match k, hi, hq with
  | 0, hi, hq => cases hi; cases hq; exact fun p e s m args below meth c D tys tC ad Q pc X hdg => qq_cV (ci := 8) X ww_gd (M_X8_holdsAt l) kf_X8_holdsAt.1 (Or.inl (ww_a5 (i := 238) (w := Cond.methodLink RX8 214 yX8_holdsAt) rfl rfl)) kf_X8_holdsAt.2.1 kf_X8_holdsAt.2.2.1 kf_X8_holdsAt.2.2.2 ⟨by decide, by decide, by decide +kernel⟩ rfl rfl rfl ⟨by decide, by decide⟩ ⟨Nat.le_refl _, Nat.le_refl _⟩ hv_X8_holdsAt hdg
  | 1, hi, hq => cases hi; cases hq; exact fun p e s m args below meth c D tys tC ad Q pc X hdg => qq_cV (ci := 8) X ww_gd (M_X8_at l) kf_X8_at.1 (Or.inl (ww_a6 (i := 61) (w := Cond.methodLink RX8 251 yX8_at) rfl rfl)) kf_X8_at.2.1 kf_X8_at.2.2.1 kf_X8_at.2.2.2 ⟨by decide, by decide, by decide +kernel⟩ rfl rfl rfl ⟨by decide, by decide⟩ ⟨Nat.le_refl _, Nat.le_refl _⟩ hv_X8_at hdg
  | 2, hi, hq => cases hi; cases hq; exact fun p e s m args below meth c D tys tC ad Q pc X hdg => qq_cV (ci := 8) X ww_gd (M_X8_stepsFrom l) kf_X8_stepsFrom.1 (Or.inl (ww_a6 (i := 65) (w := Cond.methodLink RX8 269 yX8_stepsFrom) rfl rfl)) kf_X8_stepsFrom.2.1 kf_X8_stepsFrom.2.2.1 kf_X8_stepsFrom.2.2.2 ⟨by decide, by decide, by decide +kernel⟩ rfl rfl rfl ⟨by decide, by decide⟩ ⟨Nat.le_refl _, Nat.le_refl _⟩ hv_X8_stepsFrom hdg
  | 3, hi, hq => cases hi; cases hq; exact fun p e s m args below meth c D tys tC ad Q pc X hdg => qq_cV (ci := 8) X ww_gd (M_X8_measureWhole l) kf_X8_measureWhole.1 (Or.inl (ww_a6 (i := 78) (w := Cond.methodLink RX8 272 yX8_measureWhole) rfl rfl)) kf_X8_measureWhole.2.1 kf_X8_measureWhole.2.2.1 kf_X8_measureWhole.2.2.2 ⟨by decide, by decide, by decide +kernel⟩ rfl rfl rfl ⟨by decide, by decide⟩ ⟨Nat.le_refl _, Nat.le_refl _⟩ hv_X8_measureWhole hdg
  | n + 4, hi, hq => simp [cs_X8_measure] at hq
