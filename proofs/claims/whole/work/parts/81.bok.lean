/-! every short track is found -/
theorem bk_L {w : qq_w} {N n d f : Nat} (hL : mLenN w N) (hn : n < N) (hd : d < 13) (hf : f < 13) : (∃ L, bL (mBD w N) n d f = L ∧ L ≤ 1000000000000 ∧ w.2 59 (169 * n + 13 * d + f) = lN L ∧ mLD w n d f L ∧ ∀ L', mLD w n d f L' → L ≤ L') ∨ (bL (mBD w N) n d f = 10000000000000 ∧ ∀ L, ¬ mLD w n d f L) := by
  have e : bL (mBD w N) n d f = lu (w.2 59 (169 * n + 13 * d + f)) := if_pos ⟨hn, hd, hf⟩
  rw [e]
  rcases hL.1 n d f hn hd hf with ⟨L, h1, h2, h3, h4⟩ | ⟨h1, h2⟩
  · refine Or.inl ⟨L, ?_, h2, h1, h3, h4⟩
    rw [h1]
    unfold lu
    rw [lq_lN (by omega), if_pos h2]
  · refine Or.inr ⟨?_, h2⟩
    rw [h1]
    unfold lu
    rw [lq_U, if_neg (by omega)]
theorem bk_W {w : qq_w} {N n f : Nat} (hL : mLenN w N) (hn : n < N) (hf : f < 13) : (∃ L, bW (mBD w N) n f = L ∧ L ≤ 1000000000000 ∧ mWD w N n f L ∧ ∀ L', mWD w N n f L' → L ≤ L') ∨ (bW (mBD w N) n f = 10000000000000 ∧ ∀ L, ¬ mWD w N n f L) := by
  have e : bW (mBD w N) n f = lu (w.2 60 (13 * n + f)) := if_pos ⟨hn, hf⟩
  rw [e]
  rcases hL.2 n f hn hf with ⟨L, h1, h2, h3, h4⟩ | ⟨h1, h2⟩
  · refine Or.inl ⟨L, ?_, h2, h3, h4⟩
    rw [h1]
    unfold lu
    rw [lq_lN (by omega), if_pos h2]
  · refine Or.inr ⟨?_, h2⟩
    rw [h1]
    unfold lu
    rw [lq_U, if_neg (by omega)]
theorem bk_Ld {w : qq_w} {N n d f : Nat} (hL : mLenN w N) (hn : n < N) (hd : d < 13) (hf : f < 13) (h : bL (mBD w N) n d f ≤ 1000000000000) : mLD w n d f (bL (mBD w N) n d f) := by
  rcases bk_L hL hn hd hf with ⟨L, h1, h2, -, h3, h4⟩ | ⟨h1, h2⟩
  · rw [h1]
    exact h3
  · omega
theorem bk_Lle {w : qq_w} {N Pn E n d f L : Nat} (H : iPrg w N Pn E) (hL : mLenN w N) (h : mLD w n d f L) : bL (mBD w N) n d f ≤ L := by
  obtain ⟨hn, hd, hf, -⟩ := mLD_lt H h
  rcases bk_L hL hn hd hf with ⟨L', h1, h2, -, h3, h4⟩ | ⟨h1, h2⟩
  · rw [h1]
    exact h4 L h
  · exact absurd h (h2 L)
theorem bk_Wd {w : qq_w} {N n f : Nat} (hL : mLenN w N) (hn : n < N) (hf : f < 13) (h : bW (mBD w N) n f ≤ 1000000000000) : mWD w N n f (bW (mBD w N) n f) := by
  rcases bk_W hL hn hf with ⟨L, h1, h2, h3, h4⟩ | ⟨h1, h2⟩
  · rw [h1]
    exact h3
  · omega
theorem bk_Wle {w : qq_w} {N n f L : Nat} (hL : mLenN w N) (hn : n < N) (hf : f < 13) (h : mWD w N n f L) : bW (mBD w N) n f ≤ L := by
  rcases bk_W hL hn hf with ⟨L', h1, h2, h3, h4⟩ | ⟨h1, h2⟩
  · rw [h1]
    exact h4 L h
  · exact absurd h (h2 L)
theorem lcap_s {x : Nat} (h : lcap x < 300) : lcap x = x := by
  unfold lcap at h ⊢
  split
  · rename_i z
    rw [if_pos z] at h
    omega
  · rfl
theorem lcap_x (x : Nat) : lcap x ≤ x := by
  unfold lcap
  split <;> omega
theorem bk_Ow {w : qq_w} {N n : Nat} (hn : n < N) : bOw (mBD w N) n = qn (w.1 42 n) := if_pos hn
theorem bk_En {w : qq_w} {N p : Nat} (hp : p < qn (w.1 8 2)) : bEn (mBD w N) p = qn (w.1 39 p) := if_pos hp
theorem bk_Le {w : qq_w} {N p : Nat} (hp : p < qn (w.1 8 2)) : bLe (mBD w N) p = qn (w.1 40 p) := if_pos hp
theorem bk_Pa {w : qq_w} {N n : Nat} (hn : n < N) (h : w.1 43 n = 10) : bPa (mBD w N) n = qn (w.1 49 n) := if_pos ⟨hn, h⟩
theorem bk_Ca {w : qq_w} {N n : Nat} (hn : n < N) (h : w.1 43 n = 9) : bCa (mBD w N) n = qn (w.1 47 n) := if_pos ⟨hn, h⟩
theorem bk_own {w : qq_w} {N Pn E n : Nat} (H : iPrg w N Pn E) (hn : n < N) : ∃ p m, p < Pn ∧ m < N ∧ bOw (mBD w N) n = p ∧ bEn (mBD w N) p = m ∧ w.1 43 m = 0 ∧ bOw (mBD w N) m = p ∧ mPr w n m ∧ mPr w m m ∧ w.1 39 p = nI m ∧ (w.1 43 n = 0 → m = n) := by
  have hN : N ≤ 64 := H.1.1
  have hP8 : Pn ≤ 8 := H.1.2.1
  obtain ⟨p, m, hp, hm, e42, q42, e39, q39, e0, q0, e12, q12, k43, k42, hpr, hpr2, -, hk⟩ := iP_pr H hn
  refine ⟨p, m, hp, by omega, by rw [bk_Ow hn, q42], ?_, k43, ?_, hpr, hpr2, e39, hk⟩
  · rw [bk_En (by rw [(iP_P H).2.1]; exact hp), q39]
  · rw [bk_Ow (by omega), k42, qn_nI (by omega)]
theorem wd_inv {w : qq_w} {N n f L : Nat} (h : mWD w N n f L) : (∃ m d a b, m < 64 ∧ mPr w n m ∧ mWD w N m d a ∧ mLvK w N n d f b ∧ L = lcap (a + b)) ∨ (mBg w n f ∧ L = 0) ∨ ∃ c e a, c < 64 ∧ mWD w N c e a ∧ mGoI w c e n f ∧ L = lcap (a + 1) := by
  refine (h (fun n f L => mWD w N n f L ∧ ((∃ m d a b, m < 64 ∧ mPr w n m ∧ mWD w N m d a ∧ mLvK w N n d f b ∧ L = lcap (a + b)) ∨ (mBg w n f ∧ L = 0) ∨ ∃ c e a, c < 64 ∧ mWD w N c e a ∧ mGoI w c e n f ∧ L = lcap (a + 1))) ?_ ?_ ?_).2
  · intro n f hn hb
    exact ⟨WDer.bg hb hn, Or.inr (Or.inl ⟨hb, rfl⟩)⟩
  · rintro n m d f a b hn hm hp ⟨h1, -⟩ hk
    exact ⟨WDer.lv hp h1 hk hn hm, Or.inl ⟨m, d, a, b, hm, hp, h1, hk, rfl⟩⟩
  · rintro c f m g a hc hm ⟨h1, -⟩ hs
    exact ⟨WDer.go h1 hs hc hm, Or.inr (Or.inr ⟨c, f, a, hc, h1, hs, rfl⟩)⟩
theorem wd_ent {w : qq_w} {N Pn E t n f L : Nat} (H : iPrg w N Pn E) (hm : mBeg w N Pn t t) (hL : mLenN w N) (h : mWD w N n f L) (h0 : w.1 43 n = 0) : (mBg w n f ∧ L = 0) ∨ ∃ c e a, c < 64 ∧ mWD w N c e a ∧ mGoI w c e n f ∧ L = lcap (a + 1) := by
  have hN : N ≤ 64 := H.1.1
  refine (h (fun n f L => mWD w N n f L ∧ (w.1 43 n = 0 → (mBg w n f ∧ L = 0) ∨ ∃ c e a, c < 64 ∧ mWD w N c e a ∧ mGoI w c e n f ∧ L = lcap (a + 1))) ?_ ?_ ?_).2 h0
  · intro n f hn hb
    exact ⟨WDer.bg hb hn, fun _ => Or.inl ⟨hb, rfl⟩⟩
  · rintro n m d f a b hn hm' hp ⟨h1, h2⟩ hk
    refine ⟨WDer.lv hp h1 hk hn hm', fun h0 => ?_⟩
    obtain ⟨k1, k2, k3, k4, k5⟩ := hk
    have hd := ((lMin_b (by omega) (by omega) k5 (hL.1 n d f k1 k2 k3)).mp k4).1
    obtain ⟨rfl, rfl⟩ := ld_enter H hd h0
    obtain ⟨p, m', hp', hmN, -, -, -, -, hpr, -, -, hk'⟩ := bk_own H k1
    have e1 := hk' h0
    have e2 := mPr_uq hm' (by omega) hp hpr
    subst e1
    subst e2
    have := (wd_lt H hm hL h1).2.2.1
    rw [lcap_0 this]
    exact h2 h0
  · rintro c f m g a hc hm' ⟨h1, -⟩ hs
    exact ⟨WDer.go h1 hs hc hm', fun _ => Or.inr ⟨c, f, a, hc, h1, hs, rfl⟩⟩
theorem ent_L0 {w : qq_w} {N Pn E t n f : Nat} (H : iPrg w N Pn E) (hm : mBeg w N Pn t t) (hL : mLenN w N) (hn : n < N) (h0 : w.1 43 n = 0) (hc : PClo w n f f) : bL (mBD w N) n f f = 0 := by
  have hN : N ≤ 64 := H.1.1
  obtain ⟨p, m, hp, hmN, -, -, -, -, hpr, -, e39, hk⟩ := bk_own H hn
  have e1 := hk h0
  subst e1
  have := bk_Lle H hL (LDer.ent ((mEnt_clo H hm (by omega)).mpr ⟨(PClo_lt H hm.1 hc).1.2.1, ⟨p, hp, e39⟩, hc⟩) (by omega))
  omega
theorem bOk_of {w : qq_w} {N Pn E t : Nat} (H : iPrg w N Pn E) (hm : mBeg w N Pn t t) (hL : mLenN w N) : bOk (mBD w N) N := by
  have hN : N ≤ 64 := H.1.1
  have hP8 : Pn ≤ 8 := H.1.2.1
  have e2 := (iP_P H).2.1
  have e20 := (iP_P H).2.2.2.2.2
  refine ⟨?_, ?_, ?_, ?_, ?_, ?_, ?_, ?_, ?_, ?_, ?_⟩
  · intro n d f hn hd hf h0
    have h := bk_Ld hL hn hd hf (by omega)
    rw [h0] at h
    rcases ld_inv H h with ⟨-, h2, -, ⟨p, hp, e39⟩, -⟩ | ⟨m, f', a, hm', hf', h1, hs, h3⟩ | ⟨c, f', a, l, g, h', b, hc, hf', hl, hg, hh, h1, hs, h2, h3⟩
    · rw [e2] at hp
      obtain ⟨a, b, l, -, -, -, hl, g9, g37, g10, g38, g12, g39, g40, k0, k1, -⟩ := H.2.2.1 p hp
      have := nI_inj (by omega) (by omega) (e39.symm.trans g39)
      subst this
      have t0 := (iP_tell H hn).1
      rw [bk_Ow hn, t0, k0, qn_nI (by omega), bk_En (by rw [e2]; exact hp), g39, qn_nI (by omega)]
      exact ⟨rfl, h2⟩
    · unfold lcap at h3
      split at h3 <;> omega
    · unfold lcap at h3
      split at h3 <;> omega
  · intro n d f hn hd hf h10 h0 h3
    rw [mD_K hn] at h10 ⊢
    have h := bk_Ld hL hn hd hf (by omega)
    rcases ld_inv H h with ⟨z, -⟩ | ⟨m, f', a, hm', hf', h1, hs, h4⟩ | ⟨c, f', a, l, g, h', b, hc, hf', hl, hg, hh, h1, hs, h2, h4⟩
    · omega
    · refine ⟨(mStp_lt H hm' hf' (by omega) hs).2.2, 13 * m + f', ?_⟩
      unfold bPE
      rw [show (13 * m + f') / 13 = m by omega, show (13 * m + f') % 13 = f' by omega]
      have h5 := lcap_s (x := a + 1) (by omega)
      have h6 := bk_Lle H hL h1
      have h7 := bk_Lle H hL (LDer.stp (bk_Ld hL hm' hd hf' (by omega)) hs)
      have h8 := lcap_x (bL (mBD w N) m d f' + 1)
      refine ⟨?_, by omega, (mD_F hm' hf' hf).mpr hs.2⟩
      rcases hs.1 with ⟨-, -, k, hk, z1, z2⟩ | ⟨z9, z1⟩
      · exact (mD_E hm' hn).mpr ⟨k, hk, z1, z2⟩
      · rw [(iP_tell H hm').2.1] at z9
        obtain ⟨q, hq, e0, p', r, m', hp', hr, hm'', e5, v6, e7, r1, -⟩ := iP_call H hm' z9
        have t7 := (iP_tell H hm').2.2.2.2.2.2.2.1 z9
        have := nI_inj (by omega) (by omega) (z1.symm.trans (t7.trans e7))
        subst this
        exact absurd ((iP_tell H hn).2.1.trans r1) h10
    · exact absurd (mThr_lt H hc hf' hh (by omega) (by omega) hs).2.2.2.2.1 h10
  · intro n d f hn hd hf h10 h0 h3
    rw [mD_K hn] at h10
    have h := bk_Ld hL hn hd hf (by omega)
    rcases ld_inv H h with ⟨z, -⟩ | ⟨m, f', a, hm', hf', h1, hs, h4⟩ | ⟨c, f', a, l, g, h', b, hc, hf', hl, hg, hh, h1, hs, h2, h4⟩
    · omega
    · refine Or.inl ⟨f', ?_⟩
      have h5 := lcap_s (x := a + 1) (by omega)
      have h6 := bk_Lle H hL h1
      have h7 := bk_Lle H hL (LDer.stp (bk_Ld hL hm' hd hf' (by omega)) hs)
      have h8 := lcap_x (bL (mBD w N) m d f' + 1)
      have hpa : bPa (mBD w N) n = m := by
        rw [bk_Pa hn h10]
        rcases hs.1 with ⟨-, -, k, hk, z1, z2⟩ | ⟨z9, z1⟩
        · rw [e20] at hk
          obtain ⟨a, b, ha, hb, x1, x2, x3, x4, x0, y1, y2, y3, y4⟩ := H.2.2.2.1 k hk
          have := nI_inj (by omega) (by omega) (z2.symm.trans x4)
          subst this
          exact absurd ((iP_tell H hn).2.1.symm.trans h10) y4
        · rw [(iP_tell H hm').2.1] at z9
          obtain ⟨q, hq, e0, p', r, m', hp', hr, hm'', e5, v6, e7, r1, r0, r9, -⟩ := iP_call H hm' z9
          have t7 := (iP_tell H hm').2.2.2.2.2.2.2.1 z9
          have := nI_inj (by omega) (by omega) (z1.symm.trans (t7.trans e7))
          subst this
          rw [(iP_tell H hn).2.2.2.2.2.2.2.2.2 r1, r9, qn_nI (by omega)]
      unfold bPA
      rw [hpa]
      exact ⟨by omega, (mD_F hm' hf' hf).mpr hs.2⟩
    · refine Or.inr ⟨169 * f' + 13 * g + h', ?_⟩
      obtain ⟨o1, o2, -⟩ := th_own H hc (by omega) hs
      have hpa : bPa (mBD w N) n = c := by rw [bk_Pa hn h10, o2, qn_nI (by omega)]
      have h9 := hs.1
      have hle : bLe (mBD w N) (bCa (mBD w N) c) = l := by
        have h9' := h9
        rw [(iP_tell H hc).2.1] at h9'
        obtain ⟨p, l', r, hp, hl', hr, x5, x47, x7, x49, x12, x39, x40, x43, q5, q47, q7, q49, q12, q39, q40⟩ := iP_cal H hc h9'
        rw [bk_Ca hc h9, q47, bk_Le (by rw [e2]; exact hp), q40]
        have z := hs.2.1
        rw [q47, x40] at z
        exact nI_inj (by omega) (by omega) z
      have h5 := lcap_s (x := a + b + 2) (by omega)
      have h6 := bk_Lle H hL h1
      have h6' := bk_Lle H hL h2
      have h7 := bk_Lle H hL (LDer.thr (bk_Ld hL hc hd hf' (by omega)) hs (bk_Ld hL hl hg hh (by omega)))
      have h8 := lcap_x (bL (mBD w N) c d f' + bL (mBD w N) l g h' + 2)
      unfold bPT
      rw [show (169 * f' + 13 * g + h') / 169 = f' by omega, show (169 * f' + 13 * g + h') / 13 % 13 = g by omega, show (169 * f' + 13 * g + h') % 13 = h' by omega, hpa, hle]
      exact ⟨(mD_F hc hf' hg).mpr hs.2.2.2.1, (mD_F hc hh hf).mpr hs.2.2.2.2, by omega⟩
  · rintro m n ⟨hm', hn, k, hk, z1, z2⟩
    rw [e20] at hk
    obtain ⟨a, b, ha, hb, x1, x2, x3, x4, x0, -⟩ := H.2.2.2.1 k hk
    have y1 := nI_inj (by omega) (by omega) (z1.symm.trans x2)
    have y2 := nI_inj (by omega) (by omega) (z2.symm.trans x4)
    subst y1
    subst y2
    rw [bk_Ow hm', bk_Ow hn, (iP_tell H hm').1, (iP_tell H hn).1, x0]
  · intro n hn h10
    rw [mD_K hn] at h10
    have h10' := h10
    rw [(iP_tell H hn).2.1] at h10'
    obtain ⟨c, p, hc, hp, x9, x49, c1, c7, c0, n0⟩ := iP_ret H hn h10'
    have hpa : bPa (mBD w N) n = c := by rw [bk_Pa hn h10, x49, qn_nI (by omega)]
    rw [hpa, mD_K hc, bk_Ow hc, bk_Ow hn, (iP_tell H hc).1, (iP_tell H hn).1, (iP_tell H hc).2.1, c0, n0]
    exact ⟨hc, rfl, c1⟩
  · intro c hc h9
    rw [mD_K hc] at h9
    have h9' := h9
    rw [(iP_tell H hc).2.1] at h9'
    obtain ⟨p, l', r, hp, hl', hr, x5, x47, x7, x49, x12, x39, x40, x43, q5, q47, q7, q49, q12, q39, q40⟩ := iP_cal H hc h9'
    obtain ⟨a, b, l, -, -, -, hl, g9, g37, g10, g38, g12, g39, g40, k0, k1, k2, -⟩ := H.2.2.1 p hp
    have el := nI_inj (by omega) (by omega) (x12.symm.trans g12)
    rw [bk_Ca hc h9, q47, bk_Le (by rw [e2]; exact hp), q40, bk_Ow (by omega), (iP_tell H (n := l' + 1) (by omega)).1, el, k2, qn_nI (by omega)]
    exact ⟨hl, rfl⟩
  · intro n hn
    obtain ⟨p, m, hp, hmN, q1, q2, k43, q3, -⟩ := bk_own H hn
    rw [q1, q2, mD_K hmN]
    exact ⟨hmN, k43, q3⟩
  · intro n hn h0
    rw [mD_K hn] at h0
    obtain ⟨p, m, hp, hmN, q1, q2, k43, q3, -, -, -, hk⟩ := bk_own H hn
    rw [q1, q2, hk h0]
  · intro n f hn hf h3
    obtain ⟨p, m, hp, hmN, q1, q2, k43, q3, hpr, hpr2, -, hk⟩ := bk_own H hn
    rw [q1, q2]
    have h := bk_Wd hL hn hf (by omega)
    have ent : w.1 43 n = 0 → PClo w n f f → ∃ d, d < 13 ∧ bW (mBD w N) m d + bL (mBD w N) n d f = bW (mBD w N) n f := by
      intro h0 hc
      rw [hk h0]
      exact ⟨f, hf, by rw [ent_L0 H hm hL hn h0 hc, Nat.add_zero]⟩
    rcases wd_inv h with ⟨m', d, a, b, hm64, hp', h1, hk', h4⟩ | ⟨hb, -⟩ | ⟨c, e, a, hc, h1, hs, -⟩
    · have em := mPr_uq hm64 (by omega) hp' hpr
      subst em
      obtain ⟨k1, k2, k3, k4, k5⟩ := hk'
      have hd := (wd_lt H hm hL h1).2.1
      have eb : bL (mBD w N) n d f = b := by
        rcases bk_L hL hn k2 hf with ⟨L, z1, z2, z3, -⟩ | ⟨z1, z2⟩
        · rw [z1]
          exact (lL_eq (by omega) (by omega)).mp (z3.symm.trans k4)
        · exact absurd ((lMin_b (by omega) (by omega) k5 (hL.1 n d f k1 k2 k3)).mp k4).1 (z2 b)
      have h5 := lcap_s (x := a + b) (by omega)
      have h6 := bk_Wle hL hmN hd h1
      have h7 := bk_Wle hL hn hf (WDer.lv hp' (bk_Wd hL hmN hd (by omega)) ⟨k1, k2, k3, k4, k5⟩)
      have h8 := lcap_x (bW (mBD w N) m' d + b)
      exact ⟨d, hd, by omega⟩
    · exact ent (mBg_lt H hm.1 (by omega) hb).2.2 (PClo.bg (by omega) hb)
    · obtain ⟨c1, c2, -, d', hcl⟩ := wd_lt H hm hL h1
      exact ent (mGoI_lt H c1 c2 (by omega) hs).2.2 (PClo.goI hc (by omega) hcl hs)
  · intro n f hn hf h0 h3 hno
    rw [mD_K hn] at h0
    obtain ⟨p, m, hp, hmN, q1, q2, k43, q3, hpr, hpr2, e39, hk⟩ := bk_own H hn
    have h := bk_Wd hL hn hf (by omega)
    rcases wd_ent H hm hL h h0 with ⟨hb, -⟩ | ⟨c, e, a, hc, h1, hs, h4⟩
    · refine absurd ⟨?_, hf, hb.2.2⟩ hno
      obtain ⟨a, b, l, -, -, -, hl, g9, g37, g10, g38, g12, g39, g40, k0, -⟩ := H.2.2.1 0 hm.1
      have := nI_inj (by omega) (by omega) (hb.2.1.symm.trans g39)
      subst this
      rw [bk_Ow hn, (iP_tell H hn).1, k0, qn_nI (by omega)]
    · obtain ⟨c1, c2, -⟩ := wd_lt H hm hL h1
      refine ⟨13 * c + e, ?_⟩
      have h5 := lcap_s (x := a + 1) (by omega)
      have h6 := bk_Wle hL c1 c2 h1
      have h7 := bk_Wle hL hn hf (WDer.go (bk_Wd hL c1 c2 (by omega)) hs)
      have h8 := lcap_x (bW (mBD w N) c e + 1)
      unfold bPC
      rw [show (13 * c + e) / 13 = c by omega, show (13 * c + e) % 13 = e by omega, mD_K c1]
      refine ⟨hs.1, ?_, by omega, (mD_F c1 c2 hf).mpr hs.2.2⟩
      have h9' := hs.1
      rw [(iP_tell H c1).2.1] at h9'
      obtain ⟨p', l', r, hp', hl', hr, x5, x47, x7, x49, x12, x39, x40, x43, q5, q47, q7, q49, q12, q39, q40⟩ := iP_cal H c1 h9'
      obtain ⟨a', b, l, -, -, -, hl, g9, g37, g10, g38, g12, g39, g40, k0, -⟩ := H.2.2.1 p' hp'
      have z := hs.2.1
      rw [q47, g39] at z
      have := nI_inj (by omega) (by omega) z
      subst this
      rw [bk_Ca c1 hs.1, q47, bk_Ow hn, (iP_tell H hn).1, k0, qn_nI (by omega)]
  · intro n f hn hf h0 ho hb
    rw [mD_K hn] at h0
    obtain ⟨p, m, hp, hmN, q1, q2, k43, q3, hpr, hpr2, e39, hk⟩ := bk_own H hn
    have em := hk h0
    subst em
    rw [q1] at ho
    subst ho
    have := bk_Wle hL hn hf (WDer.bg ⟨hf, e39, hb.2⟩)
    omega
theorem mTrk_of {w : qq_w} {N Pn E t : Nat} (H : iPrg w N Pn E) (hm : mBeg w N Pn t t) (hL : mLenN w N) (h9 : lOk (w.2 59) 4000000000000000000 10816) (h60 : lOk (w.2 60) 4000000000000000000 832) : mTrk w N := by
  have hN : N ≤ 64 := H.1.1
  have hP8 : Pn ≤ 8 := H.1.2.1
  refine ⟨iP_mPW H, iP_mOwn H, h9, h60, fun n hn h10 => ?_, bOk_of H hm hL, fun n f hn hf h => ?_, i_in 9 H.1.2.2.2.2.2.2.1 (by omega) (by decide), fun n hn => ?_, fun c hc h9 => ?_⟩
  · rw [(iP_tell H hn).2.1] at h10
    obtain ⟨c, p, hc, hp, x9, x49, c1, c7, c0, n0⟩ := iP_ret H hn h10
    exact ⟨c, hc, x49, by rw [(iP_tell H hc).2.1, c1]⟩
  · obtain ⟨-, -, -, d, hcl⟩ := wd_lt H hm hL (bk_Wd hL hn hf h)
    obtain ⟨⟨a1, a2, a3⟩, -⟩ := PClo_lt H hm.1 hcl
    exact ⟨d, a2, (done_row hm (by omega) a2).mpr hcl⟩
  · obtain ⟨p, m, hp, hm', e42, q42, -⟩ := iP_pr H hn
    rw [q42, (iP_P H).2.1]
    exact hp
  · rw [(iP_tell H hc).2.1] at h9
    obtain ⟨p, l', r, hp, hl', hr, x5, x47, x7, x49, x12, x39, x40, x43, q5, q47, -⟩ := iP_cal H hc h9
    rw [q47, (iP_P H).2.1]
    exact hp
