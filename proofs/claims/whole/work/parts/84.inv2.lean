/-! WHAT IS KEPT -/
def mLen (w : qq_w) (N : Nat) : Prop := (∀ n d e, n < 64 → d < 13 → e < 13 → lMin (w.2 59 (169 * n + 13 * d + e)) 4000000000000000000 (mLD w n d e)) ∧ ∀ n f, n < 64 → f < 13 → lMin (w.2 60 (13 * n + f)) 4000000000000000000 (mWD w N n f)
def iSol (w : qq_w) (N Pn : Nat) : Prop := (∀ j, fs (w.1 19 j)) ∧ ((w.1 3 7 = 0 ∧ w.1 8 27 = 0 ∧ w.1 3 5 = 0 ∧ w.1 3 6 = 0 ∧ w.1 4 6 = 0) ∨ ∃ t f f', cBeg w N Pn t f ∧ mBeg w N Pn t f' ∧ w.1 8 28 = nI t ∧ (¬ w.1 4 6 = 0 → t = f ∧ cLen w N Pn) ∧ (¬ w.1 8 36 = 0 → t = f' ∧ mLen w N))
def Inv (w : qq_w) : Prop := ∃ N Pn E, iPrg w N Pn E ∧ iFnd w ∧ iTrk w ∧ iSol w N Pn
theorem mLen_N {w : qq_w} {N Pn E : Nat} (H : iPrg w N Pn E) (h : mLen w N) : mLenN w N := by
  have hN : N ≤ 64 := H.1.1
  exact ⟨fun n d e hn => h.1 n d e (by omega), fun n f hn => h.2 n f (by omega)⟩
theorem lMin_ok {x : Int64} {U : Nat} {D : Nat → Prop} (h : lMin x U D) : ∃ L, x = lN L ∧ (L ≤ 1000000000000 ∨ L = U) := by
  rcases h with ⟨L, h1, h2, -⟩ | ⟨h1, -⟩
  · exact ⟨L, h1, Or.inl h2⟩
  · exact ⟨U, h1, Or.inr rfl⟩
theorem mLen_ok {w : qq_w} {N : Nat} (h : mLen w N) : lOk (w.2 59) 4000000000000000000 10816 ∧ lOk (w.2 60) 4000000000000000000 832 := by
  refine ⟨fun c hc => ?_, fun c hc => ?_⟩
  · have := lMin_ok (h.1 (c / 169) (c / 13 % 13) (c % 13) (by omega) (by omega) (by omega))
    rw [show 169 * (c / 169) + 13 * (c / 13 % 13) + c % 13 = c by omega] at this
    exact this
  · have := lMin_ok (h.2 (c / 13) (c % 13) (by omega) (by omega))
    rw [Nat.div_add_mod] at this
    exact this
theorem mEnt_sp {w w1 : qq_w} (h : sPg w w1) (h56 : w1.1 56 = w.1 56) : mEnt w1 = mEnt w := by
  funext n d
  unfold mEnt mHolds
  rw [h.2.1 2 (by decide), h.1 39 (by decide), h56]
theorem mLD_sp {w w1 : qq_w} (h : sPg w w1) (h56 : w1.1 56 = w.1 56) : mLD w1 = mLD w := by
  unfold mLD
  rw [mEnt_sp h h56, mStp_sp h, mThr_sp h]
theorem mWD_sp {w w1 : qq_w} (h : sPg w w1) (h59 : w1.2 59 = w.2 59) (N : Nat) : mWD w1 N = mWD w N := by
  unfold mWD
  have e1 : mPr w1 = mPr w := by
    funext n m
    unfold mPr
    rw [h.1 39 (by decide), h.1 42 (by decide)]
  rw [mBg_sp h, mGoI_sp h, e1, mLvK_sm h59]
theorem mLen_sp {w w1 : qq_w} {N : Nat} (h : sPg w w1) (h56 : w1.1 56 = w.1 56) (h59 : w1.2 59 = w.2 59) (h60 : w1.2 60 = w.2 60) (H : mLen w N) : mLen w1 N := by
  unfold mLen
  rw [h59, h60, mLD_sp h h56, mWD_sp h h59]
  exact H
theorem sPg_SP {w w1 : qq_w} (h : sPg w w1) (h19 : w1.1 19 = w.1 19) (h20 : w1.1 20 = w.1 20) : cSP w w1 := by
  refine ⟨fun q hq => ?_, h.2.2⟩
  simp only [List.mem_cons, List.not_mem_nil, or_false] at hq
  rcases hq with rfl | rfl | rfl | rfl | rfl | rfl | rfl
  · exact h.1 1 (by decide)
  · exact h.1 2 (by decide)
  · exact h.1 9 (by decide)
  · exact h.1 12 (by decide)
  · exact h.1 13 (by decide)
  · exact h19
  · exact h20
theorem cLen_sp {w w1 : qq_w} {N M : Nat} (h : cSP w w1) (h22 : w1.2 22 = w.2 22) (h24 : w1.2 24 = w.2 24) (h33 : w1.2 33 = w.2 33) (H : cLen w N M) : cLen w1 N M := by
  unfold cLen
  rw [h22, h24, h33, cLD_sp h, cWD_sp N h h33, h.1 12 (by decide)]
  exact H
theorem cBeg_sp {w w1 : qq_w} {N Pn t f : Nat} (h : sPg w w1) (h3 : w1.1 3 = w.1 3) (h19 : w1.1 19 = w.1 19) (h20 : w1.1 20 = w.1 20) (h21 : w1.1 21 = w.1 21) (H : cBeg w N Pn t f) : cBeg w1 N Pn t f := by
  obtain ⟨a1, a2, a3, ⟨u1, u2, ⟨v1, v2⟩, u4, u5, u6⟩, a5, a6⟩ := H
  have eR : cRq w1 = cRq w := by
    funext n d e
    unfold cRq
    rw [h20]
  have eG : cGq w1 = cGq w := by
    funext t n d e
    unfold cGq
    rw [h21]
  have eR2 : cR w1 = cR w := by
    funext c
    unfold cR
    rw [h20]
  refine ⟨a1, by rw [h3]; exact a2, iSt_sp h h19 a3, ⟨cPW_sp' h u1, by rw [h19]; exact u2, ⟨by rw [h3]; exact v1, by rw [h21, eR2]; exact v2⟩, by rw [h3]; exact u4, u5, ?_⟩, by rw [srch_sp h, eR, eG]; exact a5, by rw [h20]; exact a6⟩
  unfold cRB
  rw [h20]
  exact u6
theorem mBeg_sp {w w1 : qq_w} {N Pn t f : Nat} (h : sPg w w1) (h8 : ∀ j, j ∈ [27, 32, 33, 34, 35] → w1.1 8 j = w.1 8 j) (h56 : w1.1 56 = w.1 56) (h57 : w1.1 57 = w.1 57) (h58 : w1.1 58 = w.1 58) (H : mBeg w N Pn t f) : mBeg w1 N Pn t f := by
  obtain ⟨a1, a2, ⟨u1, u2, ⟨v1, v2, v3⟩, u4, u5, u6⟩, a5, a6, a7⟩ := H
  have eR : mRq w1 = mRq w := by
    funext n d e
    unfold mRq
    rw [h56]
  have eG : mGq w1 = mGq w := by
    funext t n d e
    unfold mGq
    rw [h58]
  have eR2 : mR w1 = mR w := by
    funext c
    unfold mR
    rw [h56]
  refine ⟨a1, by rw [h8 27 (by decide)]; exact a2, ⟨mPW_sp' h u1, ?_, ⟨by rw [h8 32 (by decide)]; exact v1, by rw [h8 34 (by decide)]; exact v2, by rw [h58, eR2]; exact v3⟩, by rw [h8 33 (by decide)]; exact u4, u5, ?_⟩, by rw [srch_sp h, eR, eG]; exact a5, by rw [sumI_sp h, eR, eG, h57]; exact a6, by rw [h56]; exact a7⟩
  · unfold mSI
    rw [h8 35 (by decide), h57]
    exact u2
  · unfold mRB
    rw [h56]
    exact u6
/-- a change of findings, tracks and reports alone -/
def frT (w w1 : qq_w) : Prop := (∀ q, q ∉ [5, 6, 8, 25, 26, 27, 28, 29, 30, 31, 32, 36, 61, 62, 63, 64] → w1.1 q = w.1 q) ∧ (∀ j, j ∉ [0, 39, 44, 45, 46] → w1.1 8 j = w.1 8 j) ∧ w1.2 = w.2
theorem frT_sp {w w1 : qq_w} (h : frT w w1) : sPg w w1 := ⟨fun q hq => h.1 q (by revert hq; revert q; decide), fun j hj => h.2.1 j (by revert hj; revert j; decide), by rw [h.2.2]⟩
theorem iSol_fr {w w1 : qq_w} {N Pn : Nat} (h : frT w w1) (H : iSol w N Pn) : iSol w1 N Pn := by
  have hp := frT_sp h
  have e3 := h.1 3 (by decide)
  have e4 := h.1 4 (by decide)
  have e19 := h.1 19 (by decide)
  have e20 := h.1 20 (by decide)
  have e21 := h.1 21 (by decide)
  obtain ⟨h1, h2⟩ := H
  refine ⟨by rw [e19]; exact h1, ?_⟩
  rcases h2 with ⟨a1, a2, a3, a4, a5⟩ | ⟨t, f, f', a1, a2, a3, a4, a5⟩
  · refine Or.inl ?_
    rw [e3, e4, h.2.1 27 (by decide)]
    exact ⟨a1, a2, a3, a4, a5⟩
  · refine Or.inr ⟨t, f, f', cBeg_sp hp e3 e19 e20 e21 a1, mBeg_sp hp (fun j hj => h.2.1 j (by revert hj; revert j; decide)) (h.1 56 (by decide)) (h.1 57 (by decide)) (h.1 58 (by decide)) a2, by rw [h.2.1 28 (by decide)]; exact a3, fun z => ?_, fun z => ?_⟩
    · rw [e4] at z
      obtain ⟨z1, z2⟩ := a4 z
      exact ⟨z1, cLen_sp (sPg_SP hp e19 e20) (by rw [h.2.2]) (by rw [h.2.2]) (by rw [h.2.2]) z2⟩
    · rw [h.2.1 36 (by decide)] at z
      obtain ⟨z1, z2⟩ := a5 z
      exact ⟨z1, mLen_sp hp (h.1 56 (by decide)) (by rw [h.2.2]) (by rw [h.2.2]) z2⟩
theorem iFnd_eq {w w1 : qq_w} (h0 : w1.1 8 0 = w.1 8 0) (h6 : w1.1 6 1 = w.1 6 1) (h36 : w1.1 36 = w.1 36) (h32 : w1.1 32 = w.1 32) (H : iFnd w) : iFnd w1 := by
  unfold iFnd
  rw [h0, h6, h36, h32]
  exact H
theorem iTrk_eq {w w1 : qq_w} (h44 : w1.1 8 44 = w.1 8 44) (h5 : w1.1 5 7 = w.1 5 7) (hq : ∀ q, q ∈ [25, 26, 27, 28, 61, 62, 63, 64] → w1.1 q = w.1 q) (H : iTrk w) : iTrk w1 := by
  unfold iTrk
  rw [h44, h5, hq 25 (by decide), hq 26 (by decide), hq 27 (by decide), hq 28 (by decide), hq 61 (by decide), hq 62 (by decide), hq 63 (by decide), hq 64 (by decide)]
  exact H
/-- the beginning -/
theorem w0_18 {i : Nat} (h : i < 2496) : lw_w0.1 18 i = -1 := by
  show zff 2496 (-1) i = -1
  unfold zff
  rw [if_pos h]
theorem w0_54 {i : Nat} (h : i < 2496) : lw_w0.1 54 i = -5 := by
  show zff 2496 (-5) i = -5
  unfold zff
  rw [if_pos h]
theorem Inv_0 : Inv lw_w0 := by
  refine ⟨0, 0, 0, ⟨⟨by omega, by omega, by omega, rfl, rfl, rfl, rfl, rfl, rfl, rfl⟩, fun n hn => by omega, fun n hn => by omega, fun n hn => by omega, fun n t hn => ?_, fun i hi => Or.inl ⟨w0_18 hi, w0_54 hi⟩, ⟨0, by omega, rfl, rfl⟩, 0, by omega, rfl, rfl⟩, ⟨rfl, fun i _ => rfl⟩, ⟨0, by omega, rfl, rfl, fun i hi => by omega⟩, fun j => fs_0, Or.inl ⟨rfl, rfl, rfl, rfl, rfl⟩⟩
  constructor
  · intro z
    exact absurd z (by rw [show lw_w0.2 17 n = 0 from rfl, lb_0]; decide)
  · rintro ⟨-, k, hk, -⟩
    omega
