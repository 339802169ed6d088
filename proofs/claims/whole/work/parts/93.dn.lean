/-! DONE: lengths found, measured -/
def Dn (w : qq_w) (N Pn E t : Nat) : Prop := iPrg w N Pn E ∧ iFnd w ∧ iTrk w ∧ (∀ j, fs (w.1 19 j)) ∧ cBeg w N Pn t t ∧ mBeg w N Pn t t ∧ w.1 8 28 = nI t ∧ (¬ w.1 4 6 = 0 → cLen w N Pn) ∧ (¬ w.1 8 36 = 0 → mLen w N)
theorem Dn_Inv {w : qq_w} {N Pn E t : Nat} (h : Dn w N Pn E t) : Inv w := by
  obtain ⟨a1, a2, a3, a4, a5, a6, a7, a8, a9⟩ := h
  exact ⟨N, Pn, E, a1, a2, a3, a4, Or.inr ⟨t, t, t, a5, a6, a7, fun z => ⟨rfl, a8 z⟩, fun z => ⟨rfl, a9 z⟩⟩⟩
theorem sol_d {w : qq_w} {N Pn E : Nat} (H : iPrg w N Pn E) (hF : iFnd w) (hT : iTrk w) (hS : iSol w N Pn) : (w.1 3 7 = 0 ∧ w.1 8 27 = 0) ∨ (¬ w.1 3 7 = 0 ∧ ¬ w.1 8 27 = 0 ∧ ¬ w.1 3 6 = w.1 3 5 ∧ ¬ w.1 8 33 = w.1 8 32) ∨ ∃ t, ¬ w.1 3 7 = 0 ∧ ¬ w.1 8 27 = 0 ∧ w.1 3 6 = w.1 3 5 ∧ w.1 8 33 = w.1 8 32 ∧ Dn w N Pn E t := by
  rcases hS.2 with ⟨q1, q2, q3, q4, -⟩ | ⟨t, f, f', q1, q2, q3, q4, q5⟩
  · exact Or.inl ⟨q1, q2⟩
  · have z1 : ¬ w.1 3 7 = 0 := by rw [q1.2.1]; decide
    have z2 : ¬ w.1 8 27 = 0 := by rw [q2.2.1]; decide
    obtain ⟨b1, b2, b3, b4⟩ := beg_t q1
    obtain ⟨d1, d2, d3, d4, d5⟩ := meg_t q2
    have hd := done_iff q1 q2
    by_cases ht : t = f
    · have ht' := hd.mp ht
      subst ht
      subst ht'
      exact Or.inr (Or.inr ⟨t, z1, z2, by rw [b3, b4], by rw [d3, d4], H, hF, hT, hS.1, q1, q2, q3, fun z => (q4 z).2, fun z => (q5 z).2⟩)
    · exact Or.inr (Or.inl ⟨z1, z2, fun z => ht (nI_inj (by omega) (by omega) (b3.symm.trans (z.trans b4))), fun z => ht (hd.mpr (nI_inj (by omega) (by omega) (d3.symm.trans (z.trans d4))))⟩)
theorem Dn_Fp {w : qq_w} {N Pn E t : Nat} (h : Dn w N Pn E t) : cFp w N Pn := by
  obtain ⟨H, hF, hT, hfs, q1, q2, -⟩ := h
  have hN : N ≤ 64 := H.1.1
  have hP8 : Pn ≤ 8 := H.1.2.1
  have hS := q1.2.2.1
  have hrow : ∀ n d e, n < N → d < 13 → (bt (w.1 20 (13 * n + d)) e = true ↔ PClo w n d e) := fun n d e hn hd => done_rowc q1 (by omega) hd
  refine ⟨iP_cPW H, hfs, iP_own H, hP8, H.1.2.2.2.2.2.1, q1.1, ⟨fun p hp => ?_, fun p l d e hp hl hlN hd hb => ?_⟩, iP_lvO H, ⟨fun n d e t g hn hd he hb hs ht => ?_, fun c d e l g h r g' hc hd he hh hl hr hb hs hb2 => ?_, fun c d e m g hc hd he hm hb hs => ?_, fun m f hm hb => ?_⟩⟩
  · rw [(iP_P H).1] at hp
    obtain ⟨a, b, l, -, -, -, hl, g9, g37, g10, g38, g12, g39, g40, k0, k1, -⟩ := H.2.2.1 p hp
    exact ⟨l, by omega, g12, k1, k0⟩
  · rw [(iP_P H).1] at hp
    obtain ⟨a, b, l', -, -, -, hl', g9, g37, g10, g38, g12, g39, g40, k0, k1, -⟩ := H.2.2.1 p hp
    have := nI_inj (by omega) (by omega) (hl.symm.trans g12)
    subst this
    exact (PClo_lt H q1.1 ((hrow l d e hlN hd).mp hb)).2 (by rw [(iP_tell H hlN).2.1, k1])
  · have hs' := (stp_eq H hS hn he ht).mp hs
    have ht' := (mStp_lt H hn he ht hs').1
    exact (hrow t d g ht' hd).mpr (PClo.stp (by omega) ht ((hrow n d e hn hd).mp hb) hs')
  · have hs' := (thr_eq H hS hc he hh).mp hs
    obtain ⟨a1, a2, a3, a4, -⟩ := mThr_lt H hc he hh hl hr hs'
    exact (hrow r d g' a2 hd).mpr (PClo.thr (by omega) hl hr ((hrow c d e hc hd).mp hb) hs' ((hrow l g h a1 a3).mp hb2))
  · have hs' := (goI_eq H hS hc he).mp hs
    obtain ⟨a1, a2, -⟩ := mGoI_lt H hc he hm hs'
    exact (hrow m g g a1 a2).mpr (PClo.goI (by omega) hm ((hrow c d e hc hd).mp hb) hs')
  · have hb' := (bgn_eq H q1.1).mp hb
    obtain ⟨a1, a2, -⟩ := mBg_lt H q1.1 hm hb'
    exact (hrow m f f a1 a2).mpr (PClo.bg hm hb')
theorem Dn_find {w w' : qq_w} {N Pn E t : Nat} (h : Dn w N Pn E t) (hf : cFnd w w' N Pn) : Dn w' N Pn E t ∧ ¬ w'.1 4 6 = 0 := by
  obtain ⟨H, hF, hT, hfs, q1, q2, q3, q4, q5⟩ := h
  obtain ⟨f1, f2, f3, f4, f5, f6, f7, f8⟩ := hf
  have e8 := f1 8 (by decide)
  have hp : sPg w w' := ⟨fun q hq => f1 q (by revert hq; revert q; decide), fun j _ => by rw [e8], f5 17 (by decide)⟩
  refine ⟨⟨iPrg_sp hp H, iFnd_eq (by rw [e8]) (by rw [f1 6 (by decide)]) (f1 36 (by decide)) (f1 32 (by decide)) hF, iTrk_eq (by rw [e8]) (by rw [f1 5 (by decide)]) (fun q hq => f1 q (by revert hq; revert q; decide)) hT, by rw [f1 19 (by decide)]; exact hfs, cBeg_sp hp (f1 3 (by decide)) (f1 19 (by decide)) (f1 20 (by decide)) (f1 21 (by decide)) q1, mBeg_sp hp (fun j _ => by rw [e8]) (f1 56 (by decide)) (f1 57 (by decide)) (f1 58 (by decide)) q2, by rw [e8]; exact q3, fun _ => ⟨f6, f7, f8⟩, fun z => ?_⟩, by rw [f3]; decide⟩
  rw [e8] at z
  exact mLen_sp hp (f1 56 (by decide)) (f5 59 (by decide)) (f5 60 (by decide)) (q5 z)
theorem Dn_mp {w : qq_w} {N Pn E t : Nat} (h : Dn w N Pn E t) : mPW w (qn (w.1 8 8)) ∧ mOwn w (qn (w.1 8 8)) ∧ (∃ l, l < qn (w.1 8 8) ∧ w.1 39 0 = nI l ∧ w.1 43 l = 0) ∧ mEnN w (qn (w.1 8 8)) ∧ vp_in (w.1 8 2) 9 := by
  obtain ⟨H, hF, hT, hfs, q1, q2, q3, q4, q5⟩ := h
  have hP8 : Pn ≤ 8 := H.1.2.1
  rw [(iP_P H).2.2.2.1]
  refine ⟨iP_mPW H, iP_mOwn H, ?_, iP_enN H, i_in 9 H.1.2.2.2.2.2.2.1 (by omega) (by decide)⟩
  obtain ⟨a, b, l, -, -, -, hl, g9, g37, g10, g38, g12, g39, g40, k0, k1, -⟩ := H.2.2.1 0 q1.1
  exact ⟨l, by omega, g39, by rw [(iP_tell H (n := l) (by omega)).2.1, k1]⟩
theorem Dn_meas {w w' : qq_w} {N Pn E t : Nat} (h : Dn w N Pn E t) (hf : mMeas w w') : Dn w' N Pn E t ∧ ¬ w'.1 8 36 = 0 := by
  obtain ⟨H, hF, hT, hfs, q1, q2, q3, q4, q5⟩ := h
  obtain ⟨⟨s1, s2⟩, f2, f3, f4, f5⟩ := hf
  have z8 : ∀ q, q ∈ pgI → q ≠ 8 := by decide
  have hp : sPg w w' := ⟨fun q hq => s1 q (z8 q hq), fun j hj => s2 j (fun z => by subst z; revert hj; decide) (fun z => by subst z; revert hj; decide), f3 17 (by decide) (by decide)⟩
  have H' := iPrg_sp hp H
  refine ⟨⟨H', iFnd_eq (s2 0 (by decide) (by decide)) (by rw [s1 6 (by decide)]) (s1 36 (by decide)) (s1 32 (by decide)) hF, iTrk_eq (s2 44 (by decide) (by decide)) (by rw [s1 5 (by decide)]) (fun q hq => s1 q (fun z => by subst z; revert hq; decide)) hT, by rw [s1 19 (by decide)]; exact hfs, cBeg_sp hp (s1 3 (by decide)) (s1 19 (by decide)) (s1 20 (by decide)) (s1 21 (by decide)) q1, mBeg_sp hp (fun j hj => s2 j (fun z => by subst z; revert hj; decide) (fun z => by subst z; revert hj; decide)) (s1 56 (by decide)) (s1 57 (by decide)) (s1 58 (by decide)) q2, by rw [s2 28 (by decide) (by decide)]; exact q3, fun z => ?_, fun _ => ⟨f4, ?_⟩⟩, by rw [f2]; decide⟩
  · rw [s1 4 (by decide)] at z
    exact cLen_sp (sPg_SP hp (s1 19 (by decide)) (s1 20 (by decide))) (f3 22 (by decide) (by decide)) (f3 24 (by decide) (by decide)) (f3 33 (by decide) (by decide)) (q4 z)
  · rw [(iP_P H').2.2.2.1] at f5
    exact f5
/-- both lengths are there: the same -/
theorem Dn_lv {w : qq_w} {N Pn E t n d f b : Nat} (h : Dn w N Pn E t) (hc : cLen w N Pn) (hm : mLen w N) (hn : n < N) (hd : d < 13) (hf : f < 13) (hb : b ≤ 1000000000000) : w.2 33 (169 * n + 13 * d + f) = lN b ↔ w.2 59 (169 * n + 13 * d + f) = lN b := by
  obtain ⟨H, hF, hT, hfs, q1, q2, -⟩ := h
  have hN : N ≤ 64 := H.1.1
  rw [lMin_b (by omega) (by omega) hb (lMin_iff (hc.1 n d f hn hd hf) (fun L => ld_eq H q1 q2)), lMin_b (by omega) (by omega) hb (hm.1 n d f (by omega) hd hf)]
theorem Dn_wd {w : qq_w} {N Pn E t n f L : Nat} (h : Dn w N Pn E t) (hc : cLen w N Pn) (hm : mLen w N) : cWD w N n f L ↔ mWD w N n f L := wd_eq h.1 h.2.2.2.2.1.1 h.2.2.2.2.1.2.2.1 rfl (fun n d f b hn hd hf hb => Dn_lv h hc hm hn hd hf hb)
theorem Dn_len {w : qq_w} {N Pn E t n d f : Nat} (h : Dn w N Pn E t) (hc : cLen w N Pn) (hm : mLen w N) (hcl : PClo w n d f) : ∃ L, L ≤ 1000000000000 ∧ w.2 24 (13 * n + f) = lN L ∧ w.2 60 (13 * n + f) = lN L := by
  have H := h.1
  have q2 := h.2.2.2.2.2.1
  have hN : N ≤ 64 := H.1.1
  obtain ⟨⟨hn, hd, hf⟩, -⟩ := PClo_lt H q2.1 hcl
  obtain ⟨L0, hL0⟩ := hold_len H q2 (mLen_N H hm) hcl
  rcases hm.2 n f (by omega) hf with ⟨L, e1, e2, e3, e4⟩ | ⟨-, e2⟩
  · refine ⟨L, e2, ?_, e1⟩
    exact (lMin_b (by omega) (by omega) e2 (lMin_iff (hc.2.1 n f hn hf) (fun L => Dn_wd h hc hm))).mpr ⟨e3, e4⟩
  · exact absurd hL0 (e2 L0)
