/-! THE CALLS: solve -/
theorem cw_eq {w : qq_w} {N Pn E : Nat} (H : iPrg w N Pn E) : mWhole w ↔ ((∀ c, c < qn (w.1 1 10) → cX w c 1 = 9 → cCW w c) ∧ 0 < w.1 1 9) := by
  have hN : N ≤ 64 := H.1.1
  have hP8 : Pn ≤ 8 := H.1.2.1
  obtain ⟨p1, p2, p3, p4, p5, p6⟩ := iP_P H
  have e9 : w.1 8 2 = w.1 1 9 := by rw [H.1.2.2.2.2.2.2.1, H.1.2.2.2.2.2.1]
  unfold mWhole
  rw [p3, p4, e9, and_comm]
  refine and_congr ⟨fun h c hc h9 => ?_, fun h c hc h9 => ?_⟩ Iff.rfl
  · have t1 := (iP_tell H hc).2.1
    have h := h c hc (t1.trans h9)
    obtain ⟨-, -, -, -, -, t5, -, -, t8, -⟩ := iP_tell H hc
    obtain ⟨q, hq, f0, p', r, m, hp', hr, hm, e5, v6, e7, r1, r0, r9, e8, ha⟩ := iP_call H hc h9
    obtain ⟨a, b, l, -, -, -, hl, g9, g37, g10, g38, -⟩ := H.2.2.1 p' hp'
    unfold mCW qq_full at h
    unfold cCW qq_full
    rw [t5, t8, e8, e5, qn_nI (i := p') (by omega), qn_nI (i := m) (by omega), g38] at h
    rw [e8, e5, qn_nI (i := p') (by omega), qn_nI (i := m) (by omega), g10]
    exact ⟨fun k hk => by rw [← (ha k (by omega)).2]; exact h.1 k hk, h.2⟩
  · have t1 := (iP_tell H hc).2.1
    rw [t1] at h9
    have h := h c hc h9
    obtain ⟨-, -, -, -, -, t5, -, -, t8, -⟩ := iP_tell H hc
    obtain ⟨q, hq, f0, p', r, m, hp', hr, hm, e5, v6, e7, r1, r0, r9, e8, ha⟩ := iP_call H hc h9
    obtain ⟨a, b, l, -, -, -, hl, g9, g37, g10, g38, -⟩ := H.2.2.1 p' hp'
    unfold cCW qq_full at h
    unfold mCW qq_full
    rw [e8, e5, qn_nI (i := p') (by omega), qn_nI (i := m) (by omega), g10] at h
    rw [t5, t8, e8, e5, qn_nI (i := p') (by omega), qn_nI (i := m) (by omega), g38]
    exact ⟨fun k hk => by rw [(ha k (by omega)).2]; exact h.1 k hk, h.2⟩
theorem cR_le {w w1 : qq_w} {N Pn t t1 f : Nat} (hp : sPg w w1) (h : cBeg w N Pn t t) (h1 : cBeg w1 N Pn t1 f) : f ≤ t := by
  refine WL_card h1.2.2.2.1.2.2.1.2 h.2.2.2.1.2.2.1.2 (fun c hc => q_cR hc.1 (c_all h ?_))
  have := h1.2.2.2.2.1.1 _ _ _ (cR_q hc)
  rw [PClo_sp hp] at this
  exact this
theorem mR_le {w w1 : qq_w} {N Pn t t1 f : Nat} (hp : sPg w w1) (h : mBeg w N Pn t t) (h1 : mBeg w1 N Pn t1 f) : f ≤ t := by
  refine WL_card h1.2.2.1.2.2.1.2.2 h.2.2.1.2.2.1.2.2 (fun c hc => q_mR hc.1 (m_all h ?_).2)
  have := h1.2.2.2.1.1 _ _ _ (mR_q hc)
  rw [PClo_sp hp] at this
  exact this
theorem c_solveB {w w' : qq_w} {N Pn E t n k : Nat} (H : iPrg w N Pn E) (h0 : 0 < Pn) (hm : cMay w N) (hst : (w.1 3 7 = 0 ∧ t = 0) ∨ ∃ f, cBeg w N Pn t f) (hs : cSolve w N n k w') : ∃ f, cBeg w' N Pn (t + k) f ∧ k ≤ n ∧ (k = n ∨ t + k = f) ∧ cKp w w' ∧ (cBeg w N Pn t t → k = 0 ∧ w' = w) := by
  obtain ⟨w0, hfrom, hrun, hk, hd⟩ := hs
  rcases hfrom with ⟨h7, rfl⟩ | ⟨h7, hs⟩
  · obtain ⟨f, hb⟩ : ∃ f, cBeg w0 N Pn t f := hst.resolve_left (fun z => h7 z.1)
    obtain ⟨f', hf', hb', hkp, -⟩ := c_runB H hb k w' hrun
    obtain ⟨b1, b2, b3, b4⟩ := beg_t hb'
    refine ⟨f', hb', hk, hd.imp id (fun z => nI_inj (by omega) (by omega) (b3.symm.trans (z.trans b4))), hkp, fun hdn => ?_⟩
    have := cR_le (cKp_sp hkp) hdn hb'
    obtain rfl : k = 0 := by omega
    exact ⟨rfl, hrun⟩
  · have ht : t = 0 := by
      rcases hst with z | ⟨f, z⟩
      · exact z.2
      · rw [z.2.1] at h7
        exact absurd h7 (by decide)
    subst ht
    obtain ⟨f, hb, hkp⟩ := c_startB H h0 hm h7 hs
    obtain ⟨f', hf', hb', hkp', -⟩ := c_runB (iPrg_sp (cKp_sp hkp) H) hb k w' hrun
    obtain ⟨b1, b2, b3, b4⟩ := beg_t hb'
    refine ⟨f', hb', hk, hd.imp id (fun z => nI_inj (by omega) (by omega) (b3.symm.trans (z.trans b4))), cKp_tr hkp hkp', fun z => ?_⟩
    rw [z.2.1] at h7
    exact absurd h7 (by decide)
theorem m_solveB {w w' : qq_w} {N Pn E t n k : Nat} (H : iPrg w N Pn E) (h0 : 0 < Pn) (hst : (w.1 8 27 = 0 ∧ t = 0) ∨ ∃ f, mBeg w N Pn t f ∧ w.1 8 28 = nI t) (hs : mSolve w n k w') : ∃ f, mBeg w' N Pn (t + k) f ∧ k ≤ n ∧ (k = n ∨ t + k = f) ∧ mKp w w' ∧ w'.1 8 28 = nI (t + k) ∧ (¬ w'.1 8 36 = 0 → ¬ w.1 8 27 = 0 ∧ ¬ w.1 8 36 = 0) ∧ (mBeg w N Pn t t → k = 0 ∧ w'.1 56 = w.1 56) := by
  obtain ⟨w0, w1, hfrom, hrun, hk, hd, rfl⟩ := hs
  have kp : ∀ v : qq_w, mKp v (qq_ui v 8 28 (v.1 8 28 + nI k)) := fun v => ⟨qq_only_ui qq_only_rf (by decide), fun j hj => by
    show upd (v.1 8) 28 _ j = _
    rw [upd_at, if_neg (fun z => hj (by simp [z]))]⟩
  have bg : ∀ t f, mBeg w1 N Pn t f → mBeg (qq_ui w1 8 28 (w1.1 8 28 + nI k)) N Pn t f := fun t f hb => mBeg_sp (mKp_sp (kp w1)) (fun j hj => by
    show upd (w1.1 8) 28 _ j = _
    rw [upd_at, if_neg (fun z => by subst z; revert hj; decide)]) rfl rfl rfl hb
  have e28 : (qq_ui w1 8 28 (w1.1 8 28 + nI k)).1 8 28 = w1.1 8 28 + nI k := rfl
  have e36 : (qq_ui w1 8 28 (w1.1 8 28 + nI k)).1 8 36 = w1.1 8 36 := rfl
  rw [e28, e36]
  rcases hfrom with ⟨h7, rfl⟩ | ⟨h7, hs⟩
  · obtain ⟨f, hb, ht⟩ : ∃ f, mBeg w0 N Pn t f ∧ w0.1 8 28 = nI t := hst.resolve_left (fun z => h7 z.1)
    obtain ⟨f', hf', hb', hkp, k28, k36⟩ := m_runB H hb k w1 hrun
    obtain ⟨b1, b2, b3, b4, -⟩ := meg_t hb'
    refine ⟨f', bg _ _ hb', hk, hd.imp id (fun z => nI_inj (by omega) (by omega) (b3.symm.trans (z.trans b4))), mKp_tr hkp (kp w1), by rw [k28, ht, nI_add], fun z => ⟨h7, by rw [k36] at z; exact z⟩, fun hdn => ?_⟩
    have := mR_le (mKp_sp hkp) hdn hb'
    obtain rfl : k = 0 := by omega
    have e : w1 = w0 := hrun
    subst e
    exact ⟨rfl, rfl⟩
  · have ht : t = 0 := by
      rcases hst with z | ⟨f, z, -⟩
      · exact z.2
      · rw [z.2.1] at h7
        exact absurd h7 (by decide)
    subst ht
    obtain ⟨f, hb, hkp, s28, s36⟩ := m_startB H h0 hs
    obtain ⟨f', hf', hb', hkp', k28, k36⟩ := m_runB (iPrg_sp (mKp_sp hkp) H) hb k w1 hrun
    obtain ⟨b1, b2, b3, b4, -⟩ := meg_t hb'
    refine ⟨f', bg _ _ hb', hk, hd.imp id (fun z => nI_inj (by omega) (by omega) (b3.symm.trans (z.trans b4))), mKp_tr (mKp_tr hkp hkp') (kp w1), ?_, fun z => absurd (by rw [k36, s36]) z, fun z => ?_⟩
    · rw [k28, s28]
      exact nI_add 0 k
    · rw [z.2.1] at h7
      exact absurd h7 (by decide)
theorem lo_solve (a : Int32) : lwI Inv T_X7_solve T_X8_solve [.int a] := by
  intro w h
  obtain ⟨N, Pn, E, H, hF, hT, hS⟩ := id h
  obtain ⟨hN, hP, hE, e10, e88, e9, e82, e11, e820, -⟩ := H.1
  have eN := (iP_P H).2.2.1
  have eN8 := (iP_P H).2.2.2.1
  have v10 : vp_in (w.1 1 10) 65 := i_in 65 e10 (by omega) (by decide)
  have pw : vp_in (w.1 1 10) 65 ∧ ∀ c, c < qn (w.1 1 10) → cX w c 1 = 9 → vp_in (cX w c 8) 5 ∧ vp_in (cX w c 5) 8 := by
    refine ⟨v10, fun c hc h9 => ?_⟩
    rw [eN] at hc
    have := (iP_mFN H hc).1.2 h9
    exact ⟨this.2.1, this.1⟩
  have may : ∀ w1, sPg w w1 → (∀ j, j ∈ [27, 32, 33, 34, 35] → w1.1 8 j = w.1 8 j) → w1.1 56 = w.1 56 → w1.1 57 = w.1 57 → w1.1 58 = w.1 58 → mMay w1 N := by
    intro w1 hp h8 h56 h57 h58
    have H1 := iPrg_sp hp H
    refine ⟨iP_mPW H1, fun n hn => (iP_mRo H1 hn).1, fun z => ?_, fun z => ?_⟩
    · have z2 : (0 : Int32) < nI Pn := by
        rw [← e82, ← hp.2.1 2 (by decide)]
        exact z
      have hP0 : 0 < Pn := by
        rcases Nat.eq_zero_or_pos Pn with y | y
        · subst y
          exact absurd z2 (by decide)
        · exact y
      obtain ⟨x, y, l, -, -, -, hl, g9, g37, g10, g38, g12, g39, -⟩ := H1.2.2.1 0 hP0
      exact ⟨l, by omega, g39⟩
    · rcases hS.2 with ⟨q1, q2, -⟩ | ⟨t, f, f', q1, q2, -⟩
      · exact absurd (by rw [h8 27 (by decide)]; exact q2) z
      · exact ⟨t, f', (mBeg_sp hp h8 h56 h57 h58 q2).2.2.1⟩
  rcases arg_k (a := a) 20000 (by omega) with ⟨n, hn, ea, m1, m2, m3⟩ | ⟨m1, m3⟩ | ⟨m1, m2, m3⟩
  · have va : vp_in a 20001 := i_in 20001 ea (by omega) (by decide)
    have qa : qn a = n := i_c ea (by omega)
    by_cases hw : (∀ c, c < qn (w.1 1 10) → cX w c 1 = 9 → cCW w c) ∧ 0 < w.1 1 9
    · have hP0 : 0 < Pn := by
        rcases Nat.eq_zero_or_pos Pn with y | y
        · subst y
          have := hw.2
          rw [e9] at this
          exact absurd this (by decide)
        · exact y
      have cm : cMay w N := by
        obtain ⟨x, y, l, -, -, -, hl, g9, g37, g10, g38, g12, g39, -⟩ := H.2.2.1 0 hP0
        refine ⟨iP_cPW H, fun n hn => (iP_mFN H hn).1, fun n p f x hn hp hf hx => tg_fs H hn hp hf hx, hS.1, ⟨l, by omega, g12⟩, fun z => ?_, fun z => ?_⟩
        · rcases hS.2 with ⟨q1, q2, q3, q4, -⟩ | ⟨t, f, f', q1, -⟩
          · exact ⟨q3, q4⟩
          · rw [q1.2.1] at z
            exact absurd z (by decide)
        · rcases hS.2 with ⟨q1, -⟩ | ⟨t, f, f', q1, -⟩
          · exact absurd q1 z
          · exact ⟨t, f, q1.2.2.2.1⟩
      have pt : vp_in a 20001 ∧ ∃ N, cMay w N := ⟨va, N, cm⟩
      conv => whnf
      (repeat ((first | refine br_t (by decide) ?_ | refine br_f (by decide) ?_ | refine br_nt (by decide) ?_ | refine br_nf (by decide) ?_ | refine br_t (by assumption) ?_ | refine br_f (by assumption) ?_ | refine br_nt (by assumption) ?_ | refine br_nf (by assumption) ?_ | refine ⟨_, rfl, ?_⟩ | refine ⟨by assumption, ?_⟩); (conv => whnf)))
      intro N' k w1 cm' hs
      obtain rfl : N' = N := nI_inj (by have := cm'.1.2.1; omega) (by omega) (cm'.1.1.symm.trans e10)
      rw [qa] at hs
      have key : ∃ t, ((w.1 3 7 = 0 ∧ t = 0) ∨ ∃ f, cBeg w N' Pn t f) ∧ ((w.1 8 27 = 0 ∧ t = 0) ∨ ∃ f, mBeg w N' Pn t f ∧ w.1 8 28 = nI t) ∧ (¬ w.1 4 6 = 0 → cBeg w N' Pn t t ∧ cLen w N' Pn) ∧ (¬ w.1 8 27 = 0 → ¬ w.1 8 36 = 0 → mBeg w N' Pn t t ∧ mLen w N') := by
        rcases hS.2 with ⟨q1, q2, q3, q4, q5⟩ | ⟨t, f, f', q1, q2, q3, q4, q5⟩
        · exact ⟨0, Or.inl ⟨q1, rfl⟩, Or.inl ⟨q2, rfl⟩, fun z => absurd q5 z, fun z => absurd q2 z⟩
        · refine ⟨t, Or.inr ⟨f, q1⟩, Or.inr ⟨f', q2, q3⟩, fun z => ?_, fun _ z => ?_⟩
          · obtain ⟨rfl, y⟩ := q4 z
            exact ⟨q1, y⟩
          · obtain ⟨rfl, y⟩ := q5 z
            exact ⟨q2, y⟩
      obtain ⟨t, k1, k2, k3, k4⟩ := key
      obtain ⟨f, hb, hk, hd, hkp, hdn⟩ := c_solveB H hP0 cm k1 hs
      have hp1 := cKp_sp hkp
      have H1 := iPrg_sp hp1 H
      have e8 : w1.1 8 = w.1 8 := hkp.1.2 8 (by decide)
      have e56 : w1.1 56 = w.1 56 := hkp.1.2 56 (by decide)
      have e57 : w1.1 57 = w.1 57 := hkp.1.2 57 (by decide)
      have e58 : w1.1 58 = w.1 58 := hkp.1.2 58 (by decide)
      conv => whnf
      refine ⟨_, rfl, ?_⟩
      conv => whnf
      refine ⟨⟨N', may w1 hp1 (fun j _ => by rw [e8]) e56 e57 e58⟩, fun z => absurd m3 z, fun _ z => absurd ((cw_eq H1).mpr ?_) z, fun _ _ k' w2 hs2 => ?_⟩
      · rw [sPg_X hp1, hp1.1 1 (by decide)]
        unfold cCW at hw ⊢
        rw [sPg_X hp1, hp1.1 14 (by decide), hp1.1 10 (by decide)]
        exact hw
      rw [qa] at hs2
      have k2' : (w1.1 8 27 = 0 ∧ t = 0) ∨ ∃ f, mBeg w1 N' Pn t f ∧ w1.1 8 28 = nI t := by
        rw [e8]
        exact k2.imp id (fun ⟨f, z1, z2⟩ => ⟨f, mBeg_sp hp1 (fun j _ => by rw [e8]) e56 e57 e58 z1, z2⟩)
      obtain ⟨f2, hb2, hk2, hd2, hkp2, h28, h36, hdn2⟩ := m_solveB H1 hP0 k2' hs2
      have hp2 := mKp_sp hkp2
      have hbc : cBeg w2 N' Pn (t + k) f := cBeg_sp hp2 (hkp2.1.2 3 (by decide)) (hkp2.1.2 19 (by decide)) (hkp2.1.2 20 (by decide)) (hkp2.1.2 21 (by decide)) hb
      obtain ⟨b1, -⟩ := beg_t hbc
      obtain ⟨d1, -⟩ := meg_t hb2
      have hkk : k' = k := by
        rcases Nat.lt_trichotomy k k' with z | z | z
        · have hf : t + k = f := hd.resolve_left (by omega)
          rw [← hf] at hbc
          have := le_cm hbc hb2
          omega
        · exact z.symm
        · have hf : t + k' = f2 := hd2.resolve_left (by omega)
          rw [← hf] at hb2
          have := le_mc hb2 hbc
          omega
      subst hkk
      have hp := sPg_tr hp1 hp2
      refine ⟨rfl, N', Pn, E, iPrg_sp hp2 H1, ?_, ?_, ?_, Or.inr ⟨t + k', f, f2, hbc, hb2, h28, fun z => ?_, fun z => ?_⟩⟩
      · refine iFnd_eq ?_ ?_ ?_ ?_ hF
        · rw [hkp2.2 0 (by decide), e8]
        · rw [hkp2.1.2 6 (by decide), hkp.1.2 6 (by decide)]
        · rw [hkp2.1.2 36 (by decide), hkp.1.2 36 (by decide)]
        · rw [hkp2.1.2 32 (by decide), hkp.1.2 32 (by decide)]
      · refine iTrk_eq ?_ ?_ (fun q hq => ?_) hT
        · rw [hkp2.2 44 (by decide), e8]
        · rw [hkp2.1.2 5 (by decide), hkp.1.2 5 (by decide)]
        · rw [hkp2.1.2 q (by revert hq; revert q; decide), hkp.1.2 q (by revert hq; revert q; decide)]
      · rw [hkp2.1.2 19 (by decide)]
        exact hbc.2.2.2.1.2.1 |> fun z => by
          have e19 := hkp2.1.2 19 (by decide)
          rw [e19] at z
          exact z
      · rw [hkp2.1.2 4 (by decide), hkp.1.2 4 (by decide)] at z
        obtain ⟨y1, y2⟩ := k3 z
        obtain ⟨rfl, rfl⟩ := hdn y1
        obtain ⟨x1, -⟩ := beg_t y1
        have hff : f = t := by
          have := cR_le sPg_rf y1 hb
          omega
        refine ⟨by omega, cLen_sp (sPg_SP hp2 (hkp2.1.2 19 (by decide)) (hkp2.1.2 20 (by decide))) ?_ ?_ ?_ y2⟩ <;> rw [hkp2.1.1]
      · obtain ⟨y1, y2⟩ := h36 z
        rw [e8] at y1 y2
        obtain ⟨x1, x2⟩ := k4 y1 y2
        have x1' := mBeg_sp hp1 (fun j _ => by rw [e8]) e56 e57 e58 x1
        obtain ⟨u1, u2⟩ := hdn2 x1'
        have hff := mR_le hp2 x1' hb2
        refine ⟨by omega, mLen_sp hp (by rw [u2, e56]) ?_ ?_ x2⟩ <;> rw [hkp2.1.1, hkp.1.1]
    · have hw' : ¬ mWhole w := fun z => hw ((cw_eq H).mp z)
      conv => whnf
      (repeat ((first | refine br_t (by decide) ?_ | refine br_f (by decide) ?_ | refine br_nt (by decide) ?_ | refine br_nf (by decide) ?_ | refine br_t (by assumption) ?_ | refine br_f (by assumption) ?_ | refine br_nt (by assumption) ?_ | refine br_nf (by assumption) ?_ | refine ⟨_, rfl, ?_⟩ | refine ⟨by assumption, ?_⟩); (conv => whnf)))
      exact ⟨⟨N, may w sPg_rf (fun _ _ => rfl) rfl rfl rfl⟩, fun z => absurd m3 z, fun _ _ => ⟨rfl, h⟩, fun _ z => absurd z hw'⟩
  · conv => whnf
    (repeat ((first | refine br_t (by decide) ?_ | refine br_f (by decide) ?_ | refine br_nt (by decide) ?_ | refine br_nf (by decide) ?_ | refine br_t (by assumption) ?_ | refine br_f (by assumption) ?_ | refine br_nt (by assumption) ?_ | refine br_nf (by assumption) ?_ | refine ⟨_, rfl, ?_⟩ | refine ⟨by assumption, ?_⟩); (conv => whnf)))
    exact ⟨⟨N, may w sPg_rf (fun _ _ => rfl) rfl rfl rfl⟩, fun _ => ⟨rfl, h⟩, fun z => absurd z m3, fun z => absurd z m3⟩
  · conv => whnf
    (repeat ((first | refine br_t (by decide) ?_ | refine br_f (by decide) ?_ | refine br_nt (by decide) ?_ | refine br_nf (by decide) ?_ | refine br_t (by assumption) ?_ | refine br_f (by assumption) ?_ | refine br_nt (by assumption) ?_ | refine br_nf (by assumption) ?_ | refine ⟨_, rfl, ?_⟩ | refine ⟨by assumption, ?_⟩); (conv => whnf)))
    exact ⟨⟨N, may w sPg_rf (fun _ _ => rfl) rfl rfl rfl⟩, fun _ => ⟨rfl, h⟩, fun z => absurd z m3, fun z => absurd z m3⟩
