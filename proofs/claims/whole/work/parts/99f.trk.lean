/-! THE CALLS: track -/
def dlt (h : Int32) : Int32 := if h = 3 then 1 else if h = 4 then -1 else 0
theorem oW_s (f : Nat → Int32) (k : Nat) : oW f (k + 1) = oW f k + dlt (f k) := rfl
theorem oW_sh (f : Nat → Int32) : ∀ k, oW f (k + 1) = dlt (f 0) + oW (fun j => f (j + 1)) k
  | 0 => by
    show (0 : Int32) + dlt (f 0) = dlt (f 0) + 0
    rw [Int32.add_comm]
  | k + 1 => by
    rw [oW_s, oW_sh f k, oW_s, Int32.add_assoc]
theorem oW_cg {f g : Nat → Int32} : ∀ k, (∀ i, i < k → f i = g i) → oW f k = oW g k
  | 0, _ => rfl
  | k + 1, h => by rw [oW_s, oW_s, oW_cg k (fun i hi => h i (by omega)), h k (by omega)]
theorem wApp_c : ∀ (l : List (Nat × Nat × Nat)) (w : qq_w) (t : Nat), w.1 8 44 = nI t → t + l.length ≤ 300 → (∀ i, i < l.length → (wApp w l).1 61 (t + i) = nI (l.getD i (0, 0, 0)).1 ∧ (wApp w l).1 62 (t + i) = nI (l.getD i (0, 0, 0)).2.1 ∧ (wApp w l).1 63 (t + i) = nI (l.getD i (0, 0, 0)).2.2 ∧ (wApp w l).1 64 (t + i) = w.1 8 45 + oW (fun j => nI (l.getD j (0, 0, 0)).2.2) (i + 1)) ∧ ∀ i, i < t → (wApp w l).1 61 i = w.1 61 i ∧ (wApp w l).1 62 i = w.1 62 i ∧ (wApp w l).1 63 i = w.1 63 i ∧ (wApp w l).1 64 i = w.1 64 i
  | [], w, t, _, _ => ⟨fun i hi => absurd hi (Nat.not_lt_zero i), fun i _ => ⟨rfl, rfl, rfl, rfl⟩⟩
  | x :: l, w, t, ht, hl => by
    have hl' : t + 1 + l.length ≤ 300 := by
      simp only [List.length_cons] at hl
      omega
    obtain ⟨h1, h2⟩ := wApp_c l (wCome w (nI x.1) (nI x.2.1) (nI x.2.2)) (t + 1) (wCome_44 ht) hl'
    have kt : (w.1 8 44).toNatClampNeg = t := i_c ht (by omega)
    have e61 : (wCome w (nI x.1) (nI x.2.1) (nI x.2.2)).1 61 = upd (w.1 61) t (nI x.1) := by
      rw [← kt]
      rfl
    have e62 : (wCome w (nI x.1) (nI x.2.1) (nI x.2.2)).1 62 = upd (w.1 62) t (nI x.2.1) := by
      rw [← kt]
      rfl
    have e63 : (wCome w (nI x.1) (nI x.2.1) (nI x.2.2)).1 63 = upd (w.1 63) t (nI x.2.2) := by
      rw [← kt]
      rfl
    have e64 : (wCome w (nI x.1) (nI x.2.1) (nI x.2.2)).1 64 = upd (w.1 64) t (w.1 8 45 + dlt (nI x.2.2)) := by
      rw [← kt]
      rfl
    have e45 : (wCome w (nI x.1) (nI x.2.1) (nI x.2.2)).1 8 45 = w.1 8 45 + dlt (nI x.2.2) := rfl
    have hw : wApp w (x :: l) = wApp (wCome w (nI x.1) (nI x.2.1) (nI x.2.2)) l := rfl
    rw [hw]
    refine ⟨fun i hi => ?_, fun i hi => ?_⟩
    · cases i with
      | zero =>
        obtain ⟨g1, g2, g3, g4⟩ := h2 t (by omega)
        rw [Nat.add_zero, g1, g2, g3, g4, e61, e62, e63, e64, upd_at, upd_at, upd_at, upd_at, if_pos rfl, if_pos rfl, if_pos rfl, if_pos rfl]
        refine ⟨rfl, rfl, rfl, ?_⟩
        show w.1 8 45 + dlt (nI x.2.2) = w.1 8 45 + ((0 : Int32) + dlt (nI x.2.2))
        rw [Int32.zero_add]
      | succ i =>
        simp only [List.length_cons] at hi
        obtain ⟨g1, g2, g3, g4⟩ := h1 i (by omega)
        rw [show t + (i + 1) = t + 1 + i by omega, g1, g2, g3, g4, e45]
        refine ⟨rfl, rfl, rfl, ?_⟩
        rw [oW_sh (fun j => nI ((x :: l).getD j (0, 0, 0)).2.2) (i + 1), ← Int32.add_assoc]
        rfl
    · obtain ⟨g1, g2, g3, g4⟩ := h2 i (by omega)
      rw [g1, g2, g3, g4, e61, e62, e63, e64, upd_at, upd_at, upd_at, upd_at, if_neg (by omega), if_neg (by omega), if_neg (by omega), if_neg (by omega)]
      exact ⟨rfl, rfl, rfl, rfl⟩
theorem getD_rev (l : List (Nat × Nat × Nat)) {i : Nat} (hi : i < l.length) : l.reverse.getD i (0, 0, 0) = l.getD (l.length - 1 - i) (0, 0, 0) := by
  rw [List.getD_eq_getElem?_getD, List.getD_eq_getElem?_getD, List.getElem?_reverse hi]
/-- done, tracks aside -/
def Dn0 (w : qq_w) (N Pn E t : Nat) : Prop := iPrg w N Pn E ∧ iFnd w ∧ (∀ j, fs (w.1 19 j)) ∧ cBeg w N Pn t t ∧ mBeg w N Pn t t ∧ w.1 8 28 = nI t ∧ (¬ w.1 4 6 = 0 → cLen w N Pn) ∧ (¬ w.1 8 36 = 0 → mLen w N)
theorem Dn_0 {w : qq_w} {N Pn E t : Nat} (h : Dn w N Pn E t) : Dn0 w N Pn E t := ⟨h.1, h.2.1, h.2.2.2⟩
theorem Dn0_sol {w : qq_w} {N Pn E t : Nat} (h : Dn0 w N Pn E t) : iSol w N Pn := by
  obtain ⟨a1, a2, a4, a5, a6, a7, a8, a9⟩ := h
  exact ⟨a4, Or.inr ⟨t, t, t, a5, a6, a7, fun z => ⟨rfl, a8 z⟩, fun z => ⟨rfl, a9 z⟩⟩⟩
/-- the class has laid its track -/
theorem laid_fr {w w' : qq_w} {l : List (Nat × Nat × Nat)} (h : cLaid w l w') : frT w w' ∧ w'.1 8 = w.1 8 ∧ cTf w w' := by
  obtain ⟨h1, h2, h3, -⟩ := h
  have e8 := h1 8 (by decide)
  refine ⟨⟨fun q hq => h1 q (fun z => hq ?_), fun j _ => by rw [e8], h2⟩, e8, h1, h2⟩
  simp only [List.mem_cons, List.not_mem_nil, or_false] at z ⊢
  omega
theorem Dn0_laid {w w' : qq_w} {N Pn E t : Nat} {l : List (Nat × Nat × Nat)} (h : Dn0 w N Pn E t) (hl : cLaid w l w') : Dn0 w' N Pn E t := by
  obtain ⟨hfr, e8, -⟩ := laid_fr hl
  have hp := frT_sp hfr
  have hq := hl.1
  obtain ⟨a1, a2, a4, a5, a6, a7, a8, a9⟩ := h
  refine ⟨iPrg_sp hp a1, iFnd_eq (by rw [e8]) (by rw [hq 6 (by decide)]) (hq 36 (by decide)) (hq 32 (by decide)) a2, by rw [hq 19 (by decide)]; exact a4, cBeg_sp hp (hq 3 (by decide)) (hq 19 (by decide)) (hq 20 (by decide)) (hq 21 (by decide)) a5, mBeg_sp hp (fun j _ => by rw [e8]) (hq 56 (by decide)) (hq 57 (by decide)) (hq 58 (by decide)) a6, by rw [e8]; exact a7, fun z => ?_, fun z => ?_⟩
  · rw [hq 4 (by decide)] at z
    exact cLen_sp (sPg_SP hp (hq 19 (by decide)) (hq 20 (by decide))) (by rw [hl.2.1]) (by rw [hl.2.1]) (by rw [hl.2.1]) (a8 z)
  · rw [e8] at z
    exact mLen_sp hp (hq 56 (by decide)) (by rw [hl.2.1]) (by rw [hl.2.1]) (a9 z)
theorem Dn0_meas {w w' : qq_w} {N Pn E t : Nat} (h : Dn0 w N Pn E t) (hf : mMeas w w') : Dn0 w' N Pn E t ∧ ¬ w'.1 8 36 = 0 := by
  obtain ⟨H, hF, hfs, q1, q2, q3, q4, q5⟩ := h
  obtain ⟨⟨s1, s2⟩, f2, f3, f4, f5⟩ := hf
  have z8 : ∀ q, q ∈ pgI → q ≠ 8 := by decide
  have hp : sPg w w' := ⟨fun q hq => s1 q (z8 q hq), fun j hj => s2 j (fun z => by subst z; revert hj; decide) (fun z => by subst z; revert hj; decide), f3 17 (by decide) (by decide)⟩
  have H' := iPrg_sp hp H
  refine ⟨⟨H', iFnd_eq (s2 0 (by decide) (by decide)) (by rw [s1 6 (by decide)]) (s1 36 (by decide)) (s1 32 (by decide)) hF, by rw [s1 19 (by decide)]; exact hfs, cBeg_sp hp (s1 3 (by decide)) (s1 19 (by decide)) (s1 20 (by decide)) (s1 21 (by decide)) q1, mBeg_sp hp (fun j hj => s2 j (fun z => by subst z; revert hj; decide) (fun z => by subst z; revert hj; decide)) (s1 56 (by decide)) (s1 57 (by decide)) (s1 58 (by decide)) q2, by rw [s2 28 (by decide) (by decide)]; exact q3, fun z => ?_, fun _ => ⟨f4, ?_⟩⟩, by rw [f2]; decide⟩
  · rw [s1 4 (by decide)] at z
    exact cLen_sp (sPg_SP hp (s1 19 (by decide)) (s1 20 (by decide))) (f3 22 (by decide) (by decide)) (f3 24 (by decide) (by decide)) (f3 33 (by decide) (by decide)) (q4 z)
  · rw [(iP_P H').2.2.2.1] at f5
    exact f5
theorem bF_in {w : qq_w} {N n p f g : Nat} (h : bF (mBD w N) n p f g) : n < N ∧ f < 13 ∧ g < 13 := ⟨h.1, h.2.1, h.2.2.1⟩
theorem bE_in {w : qq_w} {N m n : Nat} (h : bE (mBD w N) m n) : m < N ∧ n < N := ⟨h.1, h.2.1⟩
theorem lu_s {L : Nat} (h : L ≤ 1000000000000) : lu (lN L) = L := by
  unfold lu
  rw [lq_lN (by omega), if_pos h]
theorem Dn_lenC {w : qq_w} {N Pn E t n d f : Nat} (h : Dn0 w N Pn E t) (hc : cLen w N Pn) (hcl : PClo w n d f) : ∃ L, L ≤ 1000000000000 ∧ w.2 24 (13 * n + f) = lN L := by
  obtain ⟨H, -, -, q1, q2, -⟩ := h
  obtain ⟨⟨hn, hd, hf⟩, -⟩ := PClo_lt H q2.1 hcl
  obtain ⟨k1, k2, k3⟩ := cv_len H q1 q2 hc
  rcases hc.2.1 n f hn hf with ⟨L, e1, e2, -⟩ | ⟨-, e2⟩
  · exact ⟨L, e2, e1⟩
  · have hp : sPg w (wcv w) := ⟨fun _ _ => rfl, fun _ _ => rfl, rfl⟩
    have hcl' : PClo (wcv w) n d f := by
      rw [PClo_sp hp]
      exact hcl
    obtain ⟨L, hL⟩ := hold_len (cv_P H) (cv_B q2) k1 hcl'
    refine absurd ((wd_eq (v := wcv w) H q2.1 q1.2.2.1 rfl (fun n d f b hn hd hf hb => ?_)).mpr hL) (e2 L)
    rw [lMin_b (by omega) (by omega) hb (lMin_iff (hc.1 n d f hn hd hf) (fun L => ld_eq H q1 q2)), lMin_b (by omega) (by omega) hb (k1.1 n d f hn hd hf)]
    exact Iff.rfl
theorem Dn_Tp {w : qq_w} {N Pn E t : Nat} (h : Dn0 w N Pn E t) (hc : cLen w N Pn) : cTp w N Pn := by
  obtain ⟨H, -, hfs, q1, q2, -⟩ := h
  have hN : N ≤ 64 := H.1.1
  have hP8 : Pn ≤ 8 := H.1.2.1
  refine ⟨iP_cPW H, hfs, iP_own H, hP8, H.1.2.2.2.2.2.1, fun c hcN => ?_, fun c hcN => ?_, fun c hcN => ?_, fun n hn h10 => ?_, fun p m d hp em hm hd => ?_⟩
  · have := lMin_ok (hc.1 (c / 169) (c / 13 % 13) (c % 13) (by omega) (by omega) (by omega))
    rw [show 169 * (c / 169) + 13 * (c / 13 % 13) + c % 13 = c by omega] at this
    exact this
  · have := lMin_ok (hc.2.1 (c / 13) (c % 13) (by omega) (by omega))
    rw [Nat.div_add_mod] at this
    exact this
  · obtain ⟨a, b, l, -, -, -, hl, g9, g37, g10, g38, g12, -⟩ := H.2.2.1 (c / 13) (by omega)
    have := lMin_ok (hc.2.2 (c / 13) (c % 13) l (by omega) (by omega) (by omega) g12)
    rw [Nat.div_add_mod] at this
    exact this
  · obtain ⟨c, p, hcN, hp, x9, x49, c1, -⟩ := iP_ret H hn h10
    exact ⟨c, hcN, x9, c1⟩
  · exact lu_min (by omega) (by omega) (by omega) (by omega) (hc.2.2 p d m hp hd hm em) (hc.2.1 m d hm hd) (fun _ => Iff.rfl)
/-- a track of the class -/
theorem trk_c {w : qq_w} {N Pn E t n d f L : Nat} (h : Dn0 w N Pn E t) (hc : cLen w N Pn) (hcl : PClo w n d f) (eL : w.2 24 (13 * n + f) = lN L) (hL : L < 300) : ∃ (l : List (Nat × Nat × Nat)) (d0 : Nat) (s' : BSt), bOk (cBD w N Pn) N ∧ bW (cBD w N Pn) n f = L ∧ bOut (cBD w N Pn) n f d0 ∧ l.length = L + 1 ∧ bRun (cBD w N Pn) l (n, f, d0, []) s' := by
  obtain ⟨H, -, -, q1, q2, -⟩ := h
  obtain ⟨⟨hn, hd, hf⟩, -⟩ := PClo_lt H q2.1 hcl
  obtain ⟨k1, k2, k3⟩ := cv_len H q1 q2 hc
  have hb := bOk_of (cv_P H) (cv_B q2) k1
  obtain ⟨b1, b2, b3, b4⟩ := bd_tr (v := (wcv w).2) H q2.1 q1.2.2.1 k2 k3 hb
  have eW : bW (cBD w N Pn) n f = L := by
    have : bW (cBD w N Pn) n f = lu (w.2 24 (13 * n + f)) := if_pos ⟨hn, hf⟩
    rw [this, eL, lu_s (by omega)]
  have eW' : bW (mBD (w.1, (wcv w).2) N) n f = L := by rw [← b3, eW]
  obtain ⟨d0, ho⟩ := bOut_ex hb hn hf (by rw [show bW (mBD (wcv w) N) n f = L from eW']; exact hL)
  obtain ⟨l, s', hl, hr⟩ := run_st hb (fun n p f g => bF_in) (fun m n => bE_in) L n f d0 hn hf eW' hL ho
  exact ⟨l, d0, s', b1, eW, (b4 n f d0).mpr ho, hl, (b2 _ _ _).mpr hr⟩
theorem cBD_cg {w w1 : qq_w} {N M : Nat} (hp : sPg w w1) (h19 : w1.1 19 = w.1 19) (h33 : w1.2 33 = w.2 33) (h24 : w1.2 24 = w.2 24) : cBD w1 N M = cBD w N M := by
  unfold cBD
  rw [sPg_X hp, h19, h33, h24, hp.2.2, hp.1 12 (by decide), cBegin_pg hp]
/-- and the reference's: the same -/
theorem trk_m {w : qq_w} {N Pn E t n f L : Nat} (h : Dn0 w N Pn E t) (hc : cLen w N Pn) (hm : mLen w N) (hn : n < N) (hf : f < 13) (eL : w.2 60 (13 * n + f) = lN L) (hL : L < 300) : mTrk w N ∧ bW (mBD w N) n f = L ∧ (∀ l s s', bRun (cBD w N Pn) l s s' ↔ bRun (mBD w N) l s s') ∧ ∀ d, bOut (cBD w N Pn) n f d ↔ bOut (mBD w N) n f d := by
  obtain ⟨H, -, -, q1, q2, -⟩ := h
  have hN : N ≤ 64 := H.1.1
  obtain ⟨o1, o2⟩ := mLen_ok hm
  have hmN := mLen_N H hm
  have hT := mTrk_of H q2 hmN o1 o2
  have hlv : ∀ n d f b, n < N → d < 13 → f < 13 → b ≤ 1000000000000 → (w.2 33 (169 * n + 13 * d + f) = lN b ↔ w.2 59 (169 * n + 13 * d + f) = lN b) := by
    intro n d f b hn hd hf hb
    rw [lMin_b (by omega) (by omega) hb (lMin_iff (hc.1 n d f hn hd hf) (fun L => ld_eq H q1 q2)), lMin_b (by omega) (by omega) hb (hm.1 n d f (by omega) hd hf)]
  obtain ⟨b1, b2, b3, b4⟩ := bd_tr (v := w.2) H q2.1 q1.2.2.1 (fun n d f hn hd hf => lu_min (by omega) (by omega) (by omega) (by omega) (hm.1 n d f (by omega) hd hf) (hc.1 n d f hn hd hf) (fun L => (ld_eq H q1 q2).symm)) (fun n f hn hf => lu_min (by omega) (by omega) (by omega) (by omega) (hm.2 n f (by omega) hf) (hc.2.1 n f hn hf) (fun L => (wd_eq (v := w) H q2.1 q1.2.2.1 rfl hlv).symm)) (bOk_of H q2 hmN)
  refine ⟨hT, ?_, b2, fun d => b4 n f d⟩
  have : bW (mBD w N) n f = lu (w.2 60 (13 * n + f)) := if_pos ⟨hn, hf⟩
  rw [this, eL, lu_s (by omega)]
/-- both are laid -/
theorem trk_end {w1 w2 w3 w4 : qq_w} {N Pn E t n f d0 : Nat} {l l' : List (Nat × Nat × Nat)} {s' : BSt} (h2 : cLaid w1 l w2) (h3 : Dn0 w3 N Pn E t) (hT3 : ∀ q, q ∈ [5, 25, 26, 27, 28] → w3.1 q = w2.1 q) (h4 : w4 = qq_ui (qq_ui w3 8 44 0) 8 45 0) (hl3 : l.length ≤ 300) (hr : bRun (cBD w3 N Pn) l (n, f, d0, []) s') (ho : bOut (cBD w3 N Pn) n f d0) (hb : ∀ l s s', bRun (cBD w3 N Pn) l s s' ↔ bRun (mBD w3 N) l s s') (hbo : ∀ d, bOut (cBD w3 N Pn) n f d ↔ bOut (mBD w3 N) n f d) (hll : l'.length = l.length) (hr' : ∀ d0, bOut (mBD w3 N) n f d0 → ∃ s', bRun (mBD w3 N) l'.reverse (n, f, d0, []) s') : (wApp w4 l').1 8 44 = w2.1 5 7 ∧ Inv (wApp w4 l') := by
  obtain ⟨s2, hr2⟩ := hr' d0 ((hbo d0).mp ho)
  have e := bRun_uq l'.reverse l (n, f, d0, []) s2 s' (by rw [List.length_reverse, hll]) hr2 ((hb _ _ _).mp hr)
  have e' : l' = l.reverse := by rw [← e, List.reverse_reverse]
  subst e'
  have e44 : w4.1 8 44 = nI 0 := by
    rw [h4]
    rfl
  have e45 : w4.1 8 45 = 0 := by
    rw [h4]
    rfl
  have a44 := wApp_44 l.reverse w4 0 e44
  rw [List.length_reverse, Nat.zero_add] at a44
  obtain ⟨c1, -⟩ := wApp_c l.reverse w4 0 e44 (by rw [List.length_reverse]; omega)
  have htk := wApp_tk l.reverse w4
  have f34 : frT w3 w4 := by
    rw [h4]
    refine ⟨fun q hq => ?_, fun j hj => ?_, rfl⟩
    · have z8 : q ≠ 8 := fun z => hq (by simp [z])
      simp only [qq_ui, va_up, z8, if_false]
    · show upd (upd (w3.1 8) 44 0) 45 0 j = _
      rw [upd_at, upd_at, if_neg (fun z => hj (by simp [z])), if_neg (fun z => hj (by simp [z]))]
  have f45 : frT w4 (wApp w4 l.reverse) := ⟨fun q hq => htk.2.1 q (fun z => hq (by simp only [List.mem_cons, List.not_mem_nil, or_false] at z ⊢; omega)), fun j hj => htk.2.2 j (fun z => hj (by simp [z])) (fun z => hj (by simp [z])), htk.1⟩
  have f35 : frT w3 (wApp w4 l.reverse) := ⟨fun q hq => (f45.1 q hq).trans (f34.1 q hq), fun j hj => (f45.2.1 j hj).trans (f34.2.1 j hj), f45.2.2.trans f34.2.2⟩
  have hp := frT_sp f35
  have cellC : ∀ q, q ∈ [5, 25, 26, 27, 28] → (wApp w4 l.reverse).1 q = w2.1 q := fun q hq => by
    have z : q ∉ [8, 61, 62, 63, 64] := by
      revert hq
      revert q
      decide
    have z8 : q ≠ 8 := fun y => z (by simp [y])
    rw [htk.2.1 q z, h4]
    have : (qq_ui (qq_ui w3 8 44 0) 8 45 0).1 q = w3.1 q := by simp only [qq_ui, va_up, z8, if_false]
    rw [this, hT3 q hq]
  have e57 : w2.1 5 7 = nI l.length := h2.2.2.2.1
  refine ⟨by rw [a44, e57], N, Pn, E, iPrg_sp hp h3.1, ?_, ⟨l.length, hl3, by rw [cellC 5 (by decide)]; exact e57, a44, fun i hi => ?_⟩, iSol_fr f35 (Dn0_sol h3)⟩
  · have z0 : (wApp w4 l.reverse).1 8 0 = w3.1 8 0 := by
      rw [htk.2.2 0 (by decide) (by decide), h4]
      rfl
    have z6 : ∀ q, q ∈ [6, 32, 36] → (wApp w4 l.reverse).1 q = w3.1 q := fun q hq => by
      have z : q ∉ [8, 61, 62, 63, 64] := by
        revert hq
        revert q
        decide
      have z8 : q ≠ 8 := fun y => z (by simp [y])
      rw [htk.2.1 q z, h4]
      simp only [qq_ui, va_up, z8, if_false]
    exact iFnd_eq z0 (by rw [z6 6 (by decide)]) (z6 36 (by decide)) (z6 32 (by decide)) h3.2.1
  · obtain ⟨g1, g2, g3, g4⟩ := c1 i (by rw [List.length_reverse]; exact hi)
    rw [Nat.zero_add] at g1 g2 g3 g4
    obtain ⟨-, -, -, -, r1, r2⟩ := h2
    obtain ⟨x1, x2, x3⟩ := r1 i hi
    rw [g1, g2, g3, g4, cellC 25 (by decide), cellC 26 (by decide), cellC 27 (by decide), cellC 28 (by decide), x1, x2, x3, r2 i hi, getD_rev l hi, e45, Int32.zero_add]
    refine ⟨rfl, rfl, rfl, ?_⟩
    refine oW_cg (i + 1) (fun j hj => ?_)
    rw [(r1 j (by omega)).2.2, getD_rev l (by omega)]
