/-! SOLVING: begun, gone on, done; as many turns in one as in the other -/
theorem cStep_fs {w : qq_w} {n d e j g : Nat} (hfs : ∀ j, fs (w.1 19 j)) (h : cStep w n d e j g) : g < 13 := by
  rcases h with ⟨-, ⟨-, hb | ⟨a, b, ha, hb, b1, b2, b3⟩⟩ | ⟨hg, -⟩⟩ | ⟨-, c, d', hc, h9, h5, hd', hj, hb, -⟩ | ⟨-, -, t, ht, hj, hb⟩
  · exact fs_lt (hfs _) hb
  · exact fs_lt (hfs _) b3
  · exact hg
  · exact fs_lt (hfs _) hb
  · exact fs_lt (hfs _) hb
def cBeg (w : qq_w) (N Pn t f : Nat) : Prop := 0 < Pn ∧ w.1 3 7 = 1 ∧ iSt w N ∧ cUW w N t f ∧ srch w (cRq w) (cGq w t) ∧ ∀ j, j < 832 → fs (w.1 20 j)
def mBeg (w : qq_w) (N Pn t f : Nat) : Prop := 0 < Pn ∧ w.1 8 27 = 1 ∧ mUW w N t f ∧ srch w (mRq w) (mGq w t) ∧ sumI w (w.1 57) (mRq w) (mGq w t) ∧ ∀ j, j < 832 → fs (w.1 56 j)
def cKp (w w' : qq_w) : Prop := qq_only [3, 19, 20, 21] w w' ∧ ∀ j, j ∉ [5, 6, 7] → w'.1 3 j = w.1 3 j
def mKp (w w' : qq_w) : Prop := qq_only [8, 56, 57, 58] w w' ∧ ∀ j, j ∉ [27, 28, 32, 33, 34, 35, 36] → w'.1 8 j = w.1 8 j
theorem cKp_rf {w : qq_w} : cKp w w := ⟨qq_only_rf, fun _ _ => rfl⟩
theorem mKp_rf {w : qq_w} : mKp w w := ⟨qq_only_rf, fun _ _ => rfl⟩
theorem cKp_tr {w w1 w2 : qq_w} (h : cKp w w1) (h2 : cKp w1 w2) : cKp w w2 := ⟨qq_only_tr h.1 h2.1, fun j hj => (h2.2 j hj).trans (h.2 j hj)⟩
theorem mKp_tr {w w1 w2 : qq_w} (h : mKp w w1) (h2 : mKp w1 w2) : mKp w w2 := ⟨qq_only_tr h.1 h2.1, fun j hj => (h2.2 j hj).trans (h.2 j hj)⟩
theorem cKp_sp {w w1 : qq_w} (h : cKp w w1) : sPg w w1 := sPg_only h.1 (by decide) (fun j _ => by rw [h.1.2 8 (by decide)])
theorem mKp_sp {w w1 : qq_w} (h : mKp w w1) : sPg w w1 := sPg_only h.1 (by decide) (fun j hj => h.2 j (by revert hj; revert j; decide))
theorem c_turnB {w w' : qq_w} {N Pn E t f : Nat} (H : iPrg w N Pn E) (h : cBeg w N Pn t f) (hT : cTurn w w') : ∃ f', f ≤ f' ∧ cBeg w' N Pn (t + 1) f' ∧ cKp w w' ∧ w'.1 19 = w.1 19 := by
  obtain ⟨h0, h7, hS, hU, hs, hF⟩ := h
  obtain ⟨hlt, f', hf', hU'⟩ := cTurn_UW hU hT
  obtain ⟨a1, a2, a3⟩ := c_turn H h0 hS hU hs hT
  have hk : cKp w w' := ⟨qq_only_up a2 (by decide), fun j hj => a3 j (fun z => hj (by simp [z])) (fun z => hj (by simp [z]))⟩
  have hp := cKp_sp hk
  have e19 : w'.1 19 = w.1 19 := a2.2 19 (by decide)
  refine ⟨f', hf', ⟨h0, by rw [a3 7 (by decide) (by decide)]; exact h7, iSt_sp hp e19 hS, hU', by rw [srch_sp hp]; exact a1, fun j hj => ?_⟩, hk, e19⟩
  obtain ⟨t', f'', c, -, -, -, -, -, -, hrow⟩ := hT
  have hrow : ∀ j e, bt (w'.1 20 j) e = true ↔ bt (w.1 20 j) e = true ∨ cStep w (c / 169) (c / 13 % 13) (c % 13) j e := hrow
  intro i hi
  cases z : bt (w'.1 20 j) i with
  | false => rfl
  | true =>
    rcases (hrow _ _).mp z with z | z
    · rw [hF j hj i hi] at z
      cases z
    · have := cStep_fs hU.2.1 z
      omega
theorem c_runB {w : qq_w} {N Pn E t f : Nat} (H : iPrg w N Pn E) (h : cBeg w N Pn t f) : ∀ k w', cRun k w w' → ∃ f', f ≤ f' ∧ cBeg w' N Pn (t + k) f' ∧ cKp w w' ∧ w'.1 19 = w.1 19
  | 0, w', hr => by
    have hr : w' = w := hr
    subst hr
    exact ⟨f, Nat.le_refl f, h, cKp_rf, rfl⟩
  | k + 1, w', hr => by
    obtain ⟨w1, h1, h2⟩ := hr
    obtain ⟨f1, a1, a2, a3, a4⟩ := c_runB H h k w1 h1
    obtain ⟨f2, b1, b2, b3, b4⟩ := c_turnB (iPrg_sp (cKp_sp a3) H) a2 h2
    exact ⟨f2, by omega, b2, cKp_tr a3 b3, b4.trans a4⟩
theorem mStN_fs {w : qq_w} {N Pn E n d e j g : Nat} (H : iPrg w N Pn E) (hn : n < N) (hd : d < 13) (he : e < 13) (hR : bt (w.1 56 (13 * n + d)) e = true) (h : mStN w n d e j g) : g < 13 := by
  have hN : N ≤ 64 := H.1.1
  obtain ⟨t, d', ht, hd', hj, ⟨-, hh⟩ | ⟨rfl, hh⟩ | ⟨l, a, b, hl, ha, hb, hh, -⟩ | ⟨c, f, hc, hf, hh, -⟩⟩ := mStN_up H hn hd he hR h
  · exact (mStp_lt H hn he (by omega) hh).2.1
  · exact hd'
  · exact (mThr_lt H hn he hb (by omega) (by omega) hh).2.2.2.1
  · exact (mThr_lt H hc hf he (by omega) (by omega) hh).2.2.2.1
theorem m_turnB {w w' : qq_w} {N Pn E t f : Nat} (H : iPrg w N Pn E) (h : mBeg w N Pn t f) (hT : mTurn w w') : ∃ f', f ≤ f' ∧ mBeg w' N Pn (t + 1) f' ∧ mKp w w' ∧ w'.1 8 28 = w.1 8 28 ∧ w'.1 8 36 = w.1 8 36 := by
  have hN : N ≤ 64 := H.1.1
  obtain ⟨h0, h7, hU, hs, hI, hF⟩ := h
  obtain ⟨hlt, f', hf', hU'⟩ := mTurn_UW hU hT
  obtain ⟨a1, a1', a2, a3⟩ := m_turn H h0 hU hs hI hT
  have hk : mKp w w' := ⟨a2, fun j hj => a3 j (fun z => hj (by simp at z ⊢; omega))⟩
  have hp := mKp_sp hk
  refine ⟨f', hf', ⟨h0, by rw [a3 27 (by decide)]; exact h7, hU', by rw [srch_sp hp]; exact a1, by rw [sumI_sp hp]; exact a1', fun j hj => ?_⟩, hk, a3 28 (by decide), a3 36 (by decide)⟩
  obtain ⟨hPW, hSI, hW, e36, htf, hRB⟩ := hU
  obtain ⟨t', f'', c, e36', ht', hW', ec, hc, -, -, -, -, hrow, -⟩ := hT
  have hrow : ∀ j e, bt (w'.1 56 j) e = true ↔ bt (w.1 56 j) e = true ∨ mStN w (c / 169) (c / 13 % 13) (c % 13) j e := hrow
  have hRc : mR w c := by
    obtain ⟨c2, h1, h2⟩ := hW'.2.2.2.1 t' ht'
    have := hW'.2.2.1 c2 h1
    have : c = c2 := nI_inj (by omega) (by omega) (ec.symm.trans h2)
    exact this ▸ h1
  have hcn : c / 13 < 13 * N := hRB (c / 13) (c % 13) (by omega) hRc.2
  intro i hi
  cases z : bt (w'.1 56 j) i with
  | false => rfl
  | true =>
    rcases (hrow _ _).mp z with z | z
    · rw [hF j hj i hi] at z
      cases z
    · have := mStN_fs H (by omega) (by omega) (by omega) (by rw [show 13 * (c / 169) + c / 13 % 13 = c / 13 by omega]; exact hRc.2) z
      omega
theorem m_runB {w : qq_w} {N Pn E t f : Nat} (H : iPrg w N Pn E) (h : mBeg w N Pn t f) : ∀ k w', mRun k w w' → ∃ f', f ≤ f' ∧ mBeg w' N Pn (t + k) f' ∧ mKp w w' ∧ w'.1 8 28 = w.1 8 28 ∧ w'.1 8 36 = w.1 8 36
  | 0, w', hr => by
    have hr : w' = w := hr
    subst hr
    exact ⟨f, Nat.le_refl f, h, mKp_rf, rfl, rfl⟩
  | k + 1, w', hr => by
    obtain ⟨w1, h1, h2⟩ := hr
    obtain ⟨f1, a1, a2, a3, a4, a5⟩ := m_runB H h k w1 h1
    obtain ⟨f2, b1, b2, b3, b4, b5⟩ := m_turnB (iPrg_sp (mKp_sp a3) H) a2 h2
    exact ⟨f2, by omega, b2, mKp_tr a3 b3, b4.trans a4, b5.trans a5⟩
/-- the beginning -/
theorem c_startB {w w0 : qq_w} {N Pn E : Nat} (H : iPrg w N Pn E) (h0 : 0 < Pn) (hm : cMay w N) (h7 : w.1 3 7 = 0) (hs : cStart w N w0) : ∃ f, cBeg w0 N Pn 0 f ∧ cKp w w0 := by
  have hN : N ≤ 64 := H.1.1
  obtain ⟨f, hU⟩ := cStart_UW hm h7 hs
  obtain ⟨s1, s2, s3, s4, s5, s6, s7⟩ := hs
  have hk : cKp w w0 := ⟨s1, fun j hj => s2 j (fun z => hj (by simp [z])) (fun z => hj (by simp [z]))⟩
  have hp := cKp_sp hk
  obtain ⟨a, b, l, -, -, -, hl, g9, g37, g10, g38, g12, g39, -⟩ := H.2.2.1 0 h0
  rw [g12, qn_nI (by omega)] at s7
  refine ⟨f, ⟨h0, s3, ?_, hU, ⟨?_, ?_, ?_, ?_, ?_⟩, ?_⟩, hk⟩
  · intro n p f g hn hp3 hp9 hf
    have hi : 13 * p + f < cParts w n := by
      unfold cParts
      rw [sPg_X hp] at hp9
      rcases hp9 with rfl | h9
      · split <;> omega
      · rw [if_pos h9]
        omega
    have := s5 n (13 * p + f) hn hi
    rw [show (13 * p + f) / 13 = p by omega, show (13 * p + f) % 13 = f by omega, ← Nat.add_assoc] at this
    rw [mF_sp hp]
    exact tg_F H hn hp3 hf this g
  · rintro n d e ⟨h1, h2, h3, h4⟩
    obtain ⟨k1, k2, k3⟩ := (s7 _ _ (by omega)).mp h4
    rw [PClo_sp hp]
    obtain rfl : n = l := by omega
    obtain rfl : d = e := by omega
    exact PClo.bg h1 ((bgn_eq H h0).mp ⟨h3, g12, k3⟩)
  · intro n f hn hb
    rw [mBg_sp hp] at hb
    obtain ⟨k1, k2, k3⟩ := (bgn_eq H h0).mpr hb
    have : n = l := nI_inj (by omega) (by omega) (k2.symm.trans g12)
    subst this
    exact ⟨hn, k1, k1, (s7 _ _ (by omega)).mpr ⟨k1, rfl, k3⟩⟩
  · rintro n d e ⟨-, -, -, i, hi, -⟩
    omega
  · rintro n d e ⟨-, -, -, i, hi, -⟩
    omega
  · rintro c d e l g h r g' hl hr ⟨-, -, -, i, hi, -⟩
    omega
  · intro j hj i hi
    cases z : bt (w0.1 20 j) i with
    | false => rfl
    | true =>
      have := ((s7 _ _ hj).mp z).1
      omega
theorem m_startB {w w0 : qq_w} {N Pn E : Nat} (H : iPrg w N Pn E) (h0 : 0 < Pn) (hs : mStart w w0) : ∃ f, mBeg w0 N Pn 0 f ∧ mKp w w0 ∧ w0.1 8 28 = 0 ∧ w0.1 8 36 = 0 := by
  have hN : N ≤ 64 := H.1.1
  obtain ⟨a, b, l, -, -, -, hl, g9, g37, g10, g38, g12, g39, -⟩ := H.2.2.1 0 h0
  obtain ⟨f, hU⟩ := mStart_UW (iP_mPW H) g39 (by omega) hs
  obtain ⟨s1, s2, s3, s36, s28, s33, s4, s5, s6, s7⟩ := hs
  have hk : mKp w w0 := ⟨s1, fun j hj => s2 j (fun z => hj (by simp at z ⊢; omega))⟩
  have hp := mKp_sp hk
  rw [g39, qn_nI (by omega)] at s7
  refine ⟨f, ⟨h0, s3, hU, ⟨?_, ?_, ?_, ?_, ?_⟩, ⟨?_, ?_⟩, ?_⟩, hk, s28, s36⟩
  · rintro n d e ⟨h1, h2, h3, h4⟩
    obtain ⟨k1, k2, k3⟩ := (s7 _ _ (by omega)).mp h4
    rw [PClo_sp hp]
    obtain rfl : n = l := by omega
    obtain rfl : d = e := by omega
    exact PClo.bg h1 ⟨h3, g39, k3⟩
  · intro n f hn hb
    rw [mBg_sp hp] at hb
    obtain ⟨k1, k2, k3⟩ := hb
    have : n = l := nI_inj (by omega) (by omega) (k2.symm.trans g39)
    subst this
    exact ⟨hn, k1, k1, (s7 _ _ (by omega)).mpr ⟨k1, rfl, k3⟩⟩
  · rintro n d e ⟨-, -, -, i, hi, -⟩
    omega
  · rintro n d e ⟨-, -, -, i, hi, -⟩
    omega
  · rintro c d e l g h r g' hl hr ⟨-, -, -, i, hi, -⟩
    omega
  · intro j g hj hb
    rw [s6 j hj, b_0] at hb
    cases hb
  · rintro c d f l a b r g hl hr ⟨-, -, -, i, hi, -⟩
    omega
  · intro j hj i hi
    cases z : bt (w0.1 56 j) i with
    | false => rfl
    | true =>
      have := ((s7 _ _ hj).mp z).1
      omega
/-- all is gone on from: all is found -/
theorem c_all {w : qq_w} {N Pn t : Nat} (h : cBeg w N Pn t t) {n d e : Nat} (hc : PClo w n d e) : cRq w n d e := by
  obtain ⟨h0, h7, hS, hU, hs, hF⟩ := h
  refine srch_done hs (fun n d e hr => ?_) hc
  obtain ⟨h1, h2, h3, h4⟩ := hr
  have hR : cR w (169 * n + 13 * d + e) := ⟨by omega, by
    rw [show (169 * n + 13 * d + e) / 13 = 13 * n + d by omega, show (169 * n + 13 * d + e) % 13 = e by omega]
    exact h4⟩
  obtain ⟨i, hi, hi2⟩ := hU.2.2.1.2.2.2.1 _ hR
  exact ⟨h1, h2, h3, i, hi, hi2⟩
theorem m_all {w : qq_w} {N Pn t : Nat} (h : mBeg w N Pn t t) {n d e : Nat} (hc : PClo w n d e) : mGq w t n d e ∧ mRq w n d e := by
  obtain ⟨h0, h7, hU, hs, hI, hF⟩ := h
  have hG : ∀ n d e, mRq w n d e → mGq w t n d e := by
    rintro n d e ⟨h1, h2, h3, h4⟩
    have hR : mR w (169 * n + 13 * d + e) := ⟨by omega, by
      rw [show (169 * n + 13 * d + e) / 13 = 13 * n + d by omega, show (169 * n + 13 * d + e) % 13 = e by omega]
      exact h4⟩
    obtain ⟨i, hi, hi2⟩ := hU.2.2.1.2.2.2.2.1 _ hR
    exact ⟨h1, h2, h3, i, hi, hi2⟩
  have := srch_done hs hG hc
  exact ⟨hG _ _ _ this, this⟩
theorem cR_q {w : qq_w} {c : Nat} (h : cR w c) : cRq w (c / 169) (c / 13 % 13) (c % 13) := by
  obtain ⟨h1, h2⟩ := h
  exact ⟨by omega, by omega, by omega, by rw [show 13 * (c / 169) + c / 13 % 13 = c / 13 by omega]; exact h2⟩
theorem mR_q {w : qq_w} {c : Nat} (h : mR w c) : mRq w (c / 169) (c / 13 % 13) (c % 13) := by
  obtain ⟨h1, h2⟩ := h
  exact ⟨by omega, by omega, by omega, by rw [show 13 * (c / 169) + c / 13 % 13 = c / 13 by omega]; exact h2⟩
theorem q_cR {w : qq_w} {c : Nat} (hc : c < 10816) (h : cRq w (c / 169) (c / 13 % 13) (c % 13)) : cR w c := by
  obtain ⟨h1, h2, h3, h4⟩ := h
  rw [show 13 * (c / 169) + c / 13 % 13 = c / 13 by omega] at h4
  exact ⟨hc, h4⟩
theorem q_mR {w : qq_w} {c : Nat} (hc : c < 10816) (h : mRq w (c / 169) (c / 13 % 13) (c % 13)) : mR w c := by
  obtain ⟨h1, h2, h3, h4⟩ := h
  rw [show 13 * (c / 169) + c / 13 % 13 = c / 13 by omega] at h4
  exact ⟨hc, h4⟩
theorem le_cm {w : qq_w} {N Pn t t' f : Nat} (hc : cBeg w N Pn t t) (hm : mBeg w N Pn t' f) : f ≤ t := by
  refine WL_card hm.2.2.1.2.2.1.2.2 hc.2.2.2.1.2.2.1.2 (fun c h => q_cR h.1 (c_all hc (hm.2.2.2.1.1 _ _ _ (mR_q h))))
theorem le_mc {w : qq_w} {N Pn t t' f : Nat} (hm : mBeg w N Pn t t) (hc : cBeg w N Pn t' f) : f ≤ t := by
  refine WL_card hc.2.2.2.1.2.2.1.2 hm.2.2.1.2.2.1.2.2 (fun c h => q_mR h.1 (m_all hm (hc.2.2.2.2.1.1 _ _ _ (cR_q h))).2)
theorem beg_t {w : qq_w} {N Pn t f : Nat} (hc : cBeg w N Pn t f) : t ≤ f ∧ f ≤ 10816 ∧ w.1 3 6 = nI t ∧ w.1 3 5 = nI f := ⟨hc.2.2.2.1.2.2.2.2.1, WL_le hc.2.2.2.1.2.2.1.2, hc.2.2.2.1.2.2.2.1, hc.2.2.2.1.2.2.1.1⟩
theorem meg_t {w : qq_w} {N Pn t f : Nat} (hm : mBeg w N Pn t f) : t ≤ f ∧ f ≤ 10816 ∧ w.1 8 33 = nI t ∧ w.1 8 32 = nI f ∧ w.1 8 34 = nI f := ⟨hm.2.2.1.2.2.2.2.1, WL_le hm.2.2.1.2.2.1.2.2, hm.2.2.1.2.2.2.1, hm.2.2.1.2.2.1.1, hm.2.2.1.2.2.1.2.1⟩
theorem done_iff {w : qq_w} {N Pn t f f' : Nat} (hc : cBeg w N Pn t f) (hm : mBeg w N Pn t f') : t = f ↔ t = f' := by
  obtain ⟨a1, -⟩ := beg_t hc
  obtain ⟨b1, -⟩ := meg_t hm
  constructor
  · rintro rfl
    have := le_cm hc hm
    omega
  · rintro rfl
    have := le_mc hm hc
    omega
/-- done: the same is found -/
theorem rows_eq {w : qq_w} {N Pn t : Nat} (hc : cBeg w N Pn t t) (hm : mBeg w N Pn t t) {j : Nat} (hj : j < 832) : w.1 20 j = w.1 56 j := by
  refine b_ext fun i hi => ?_
  rcases Nat.lt_or_ge i 13 with h13 | h13
  · rw [Bool.eq_iff_iff]
    constructor
    · intro z
      have := hc.2.2.2.2.1.1 (j / 13) (j % 13) i ⟨by omega, by omega, h13, by rw [show 13 * (j / 13) + j % 13 = j by omega]; exact z⟩
      have := (m_all hm this).2.2.2.2
      rw [show 13 * (j / 13) + j % 13 = j by omega] at this
      exact this
    · intro z
      have := hm.2.2.2.1.1 (j / 13) (j % 13) i ⟨by omega, by omega, h13, by rw [show 13 * (j / 13) + j % 13 = j by omega]; exact z⟩
      have := (c_all hc this).2.2.2
      rw [show 13 * (j / 13) + j % 13 = j by omega] at this
      exact this
  · rw [hc.2.2.2.2.2 j hj i h13, hm.2.2.2.2.2 j hj i h13]
theorem done_row {w : qq_w} {N Pn t n d e : Nat} (hm : mBeg w N Pn t t) (hn : n < 64) (hd : d < 13) : bt (w.1 56 (13 * n + d)) e = true ↔ PClo w n d e := by
  constructor
  · intro z
    refine hm.2.2.2.1.1 n d e ⟨hn, hd, ?_, z⟩
    exact fs_lt (hm.2.2.2.2.2 _ (by omega)) z
  · intro z
    exact (m_all hm z).2.2.2.2
theorem done_rowc {w : qq_w} {N Pn t n d e : Nat} (hc : cBeg w N Pn t t) (hn : n < 64) (hd : d < 13) : bt (w.1 20 (13 * n + d)) e = true ↔ PClo w n d e := by
  constructor
  · intro z
    refine hc.2.2.2.2.1.1 n d e ⟨hn, hd, ?_, z⟩
    exact fs_lt (hc.2.2.2.2.2 _ (by omega)) z
  · intro z
    exact (c_all hc z).2.2.2
