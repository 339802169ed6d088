abbrev cs_X8_toState (k : Nat) : List (Nat × qq_t) := [(3, TT_X8_toEnter (k)), (4, T_X8_at), (4, TT_X8_toLevel (k))]
theorem ts_92 {k : Nat} {P : Option Value → qq_w → Prop} {K : Nat → qq_L → List Value → qq_w → Prop} (S : qq_Sat ww_sh ww_ro (cs_X8_toState k) (qq_at 115 kd_X8_toState) none P K) {w : qq_w} {a f x3 x4 : Int32} {n fn pn N t d0 : Nat} (eN : qn (w.1 8 8) = N) (hT : mTrk w N) (ea : a = nI n) (hn : n < N) (ef : f = nI fn) (hf : fn < 13) (e3 : x3 = nI pn) (hpn : pn < 8) (hpM : pn < qn (w.1 8 2)) (eOw : bOw (mBD w N) n = pn) (hVk : bW (mBD w N) n fn < k) (hk : k ≤ 300) (et : w.1 8 44 = nI t) (ht : t + bW (mBD w N) n fn + 1 ≤ 300) (e4 : x4 = nI d0) (ho : bOut (mBD w N) n fn d0)
    (hq : ∀ l : List (Nat × Nat × Nat), l.length = bW (mBD w N) n fn + 1 → (∀ d0, bOut (mBD w N) n fn d0 → ∃ s', bRun (mBD w N) l.reverse (n, fn, d0, []) s') → P none (wApp w l)) :
    K 92 [(0, .ref 8), (1, .int a), (2, .int f), (3, .int x3), (4, .int x4)] [] w := by
  have hP := hT.1
  have hN := hP.2.1
  have hb := hT.2.2.2.2.2.1
  have hd0 := ho.1
  have hs := ho.2.1
  have hb7 := hb.2.2.2.2.2.2.1 n hn
  simp only [eOw] at hs hb7
  have q3 : qn x3 = pn := by rw [e3]; exact qn_nI (by omega)
  have q4 : qn x4 = d0 := by rw [e4]; exact qn_nI (by omega)
  have qa : qn a = n := by rw [ea]; exact qn_nI (by omega)
  have qf : qn f = fn := by rw [ef]; exact qn_nI (by omega)
  refine qq_go_ok S (fun _ => false) 80 ?_
  conv => whnf
  refine ⟨⟨by rw [eN]; exact hT, i_in 13 e4 hd0 (by decide), i_in 8 e3 hpn (by decide), by rw [q3]; exact hpM, ?_, ?_, ?_, ?_, hk, t, et, ?_⟩, fun l1 hl1 hr1 => ?_⟩
  · show bEn (mBD w (qn (w.1 8 8))) (qn x3) < qn (w.1 8 8)
    rw [eN, q3]; exact hb7.1
  · show bOw (mBD w (qn (w.1 8 8))) (bEn (mBD w (qn (w.1 8 8))) (qn x3)) = qn x3
    rw [eN, q3]; exact hb7.2.2
  · show bK (mBD w (qn (w.1 8 8))) (bEn (mBD w (qn (w.1 8 8))) (qn x3)) = 0
    rw [eN, q3]; exact hb7.2.1
  · show bW (mBD w (qn (w.1 8 8))) (bEn (mBD w (qn (w.1 8 8))) (qn x3)) (qn x4) < k
    rw [eN, q3, q4]; omega
  · show t + bW (mBD w (qn (w.1 8 8))) (bEn (mBD w (qn (w.1 8 8))) (qn x3)) (qn x4) + 1 ≤ 300
    rw [eN, q3, q4]; omega
  have hl1 : l1.length = bW (mBD w (qn (w.1 8 8))) (bEn (mBD w (qn (w.1 8 8))) (qn x3)) (qn x4) + 1 := hl1
  have hr1 : ∀ d0, ∃ s', bRun (mBD w (qn (w.1 8 8))) l1.reverse (bEn (mBD w (qn (w.1 8 8))) (qn x3), qn x4, d0, []) s' := hr1
  rw [eN, q3, q4] at hl1 hr1
  have k2 := wApp_tk l1 w
  have e44 := wApp_44 l1 w t et
  have eD2 : mBD (wApp w l1) N = mBD w N := mBD_tk k2 N
  have eN2 : qn ((wApp w l1).1 8 8) = N := by rw [k2.2.2 8 (by decide) (by decide)]; exact eN
  have hT2 := mTrk_tk k2 hT
  generalize hw2 : wApp w l1 = w2 at k2 e44 eD2 eN2 hT2
  conv => whnf
  refine ⟨⟨by rw [eN2]; exact hT2, i_in 13 e4 hd0 (by decide), i_in 13 ef hf (by decide), i_in 64 ea (by omega) (by decide), by rw [eN2, qa]; exact hn, ?_, hk, t + l1.length, e44, ?_⟩, fun l2 hl2 hr2 => ?_⟩
  · show bL (mBD w2 (qn (w2.1 8 8))) (qn a) (qn x4) (qn f) < k
    rw [eN2, eD2, qa, q4, qf]; omega
  · show t + l1.length + bL (mBD w2 (qn (w2.1 8 8))) (qn a) (qn x4) (qn f) ≤ 300
    rw [eN2, eD2, qa, q4, qf]; omega
  have hl2 : l2.length = bL (mBD w2 (qn (w2.1 8 8))) (qn a) (qn x4) (qn f) := hl2
  have hr2 : ∀ st, bRun (mBD w2 (qn (w2.1 8 8))) l2.reverse (qn a, qn f, qn x4, st) (bEn (mBD w2 (qn (w2.1 8 8))) (bOw (mBD w2 (qn (w2.1 8 8))) (qn a)), qn x4, qn x4, st) := hr2
  rw [eN2, eD2, qa, q4, qf] at hl2 hr2
  conv => whnf
  have key := hq (l1 ++ l2) (by simp only [List.length_append]; omega) (fun d1 hd1 => ?_)
  · rw [wApp_app, hw2] at key
    exact key
  · have : d1 = d0 := bOut_uq hd1 ho
    subst this
    rw [List.reverse_append]
    have r2 := hr2 []
    rw [eOw] at r2
    obtain ⟨s', r1⟩ := hr1 d1
    exact ⟨s', bRun_app _ _ _ _ _ r2 r1⟩
theorem ts_26 {k : Nat} {P : Option Value → qq_w → Prop} {K : Nat → qq_L → List Value → qq_w → Prop} (S : qq_Sat ww_sh ww_ro (cs_X8_toState k) (qq_at 115 kd_X8_toState) none P K) {w : qq_w} {a f x3 : Int32} {n fn pn N t d0 : Nat} (eN : qn (w.1 8 8) = N) (hT : mTrk w N) (ea : a = nI n) (hn : n < N) (ef : f = nI fn) (hf : fn < 13) (e3 : x3 = nI pn) (hpn : pn < 8) (hpM : pn < qn (w.1 8 2)) (eOw : bOw (mBD w N) n = pn) (hVk : bW (mBD w N) n fn < k) (hk : k ≤ 300) (et : w.1 8 44 = nI t) (ht : t + bW (mBD w N) n fn + 1 ≤ 300) (ho : bOut (mBD w N) n fn d0)
    {m : Nat} (e39 : w.1 39 pn = nI m) (hm : m < N) (eEn : bEn (mBD w N) pn = m)
    (hq : ∀ l : List (Nat × Nat × Nat), l.length = bW (mBD w N) n fn + 1 → (∀ d0, bOut (mBD w N) n fn d0 → ∃ s', bRun (mBD w N) l.reverse (n, fn, d0, []) s') → P none (wApp w l)) :
    ∀ r i, i + r = d0 → ∀ x4 : Int32, x4 = nI i → K 26 [(0, .ref 8), (1, .int a), (2, .int f), (3, .int x3), (4, .int x4)] [] w := by
  have hP := hT.1
  have hN := hP.2.1
  have hd0 := ho.1
  intro r
  induction r with
  | zero =>
    intro i hi x4 e4
    have : i = d0 := by omega
    subst this
    have hs := ho.2.1
    simp only [eOw, eEn] at hs
    obtain ⟨A, eA, hA, hA2⟩ := mD_L hT.2.2.1 hN hn hd0 hf
    obtain ⟨B, eB, hB, hB2⟩ := mD_W hT.2.2.2.1 hN hm hd0
    obtain ⟨C, eC, hC, hC2⟩ := mD_W hT.2.2.2.1 hN hn hf
    have h300 : bW (mBD w N) n fn < 300 := by omega
    have hC3 : C = bW (mBD w N) n fn := by
      rw [hC2] at h300 ⊢
      split at h300 <;> rename_i z
      · rw [if_pos z]
      · omega
    have hA3 : A ≤ 1000000000000 := by
      by_cases z : A ≤ 1000000000000
      · exact z
      · rw [hA2, if_neg z] at hs; omega
    have hB3 : B ≤ 1000000000000 := by
      by_cases z : B ≤ 1000000000000
      · exact z
      · rw [hB2, if_neg z] at hs; omega
    rw [hA2, hB2, if_pos hA3, if_pos hB3] at hs
    have i1 := nI_at ea e4 ef
    have o39 : w.1 39 x3.toNatClampNeg = nI m := by rw [i_c e3 (by omega)]; exact e39
    have i2 : (13 : Int32) * w.1 39 x3.toNatClampNeg + x4 = nI (13 * m + i) := nI_mr o39 e4 (nI_lit 13)
    have i3 : (13 : Int32) * a + f = nI (13 * n + fn) := nI_mr ea ef (nI_lit 13)
    have cA : w.2 59 ((169 : Int32) * a + 13 * x4 + f).toNatClampNeg = lN A := by rw [i_c i1 (by omega)]; exact eA
    have cB : w.2 60 ((13 : Int32) * w.1 39 x3.toNatClampNeg + x4).toNatClampNeg = lN B := by rw [i_c i2 (by omega)]; exact eB
    have cC : w.2 60 ((13 : Int32) * a + f).toNatClampNeg = lN C := by rw [i_c i3 (by omega)]; exact eC
    refine qq_go_ok S (fun pc => Nat.beq pc 26 || Nat.beq pc 92) 80 ?_
    conv => whnf
    refine br_f (i_nge 13 e4 (by omega) (by omega)) ?_
    conv => whnf
    refine ⟨i_in 10816 i1 (by omega) (by decide), ?_⟩
    conv => whnf
    refine br_f (fun y => lcmp_ge.mp y ?_) ?_
    · show w.2 59 ((169 : Int32) * a + 13 * x4 + f).toNatClampNeg < 4000000000000000000
      rw [cA]; exact (lL_lt (b := 4000000000000000000) (by omega) (by omega)).mpr (by omega)
    conv => whnf
    refine ⟨i_in 8 e3 (by omega) (by decide), ?_⟩
    conv => whnf
    refine ⟨i_in 832 i2 (by omega) (by decide), ?_⟩
    conv => whnf
    refine ⟨i_in 832 i3 (by omega) (by decide), ?_⟩
    conv => whnf
    refine br_nf (lcmp0.mpr ?_) ?_
    · show w.2 60 ((13 : Int32) * w.1 39 x3.toNatClampNeg + x4).toNatClampNeg + w.2 59 ((169 : Int32) * a + 13 * x4 + f).toNatClampNeg = w.2 60 ((13 : Int32) * a + f).toNatClampNeg
      rw [cA, cB, cC, lN_add, hC3, ← hs]
    conv => whnf
    exact qq_wk S (ts_92 S eN hT ea hn ef hf e3 hpn hpM eOw hVk hk et ht e4 ho hq) ⟨rfl, rfl, rfl, rfl, rfl, trivial⟩
  | succ r ih =>
    intro i hi x4 e4
    have hs := ho.2.2 i (by omega)
    simp only [eOw, eEn] at hs
    obtain ⟨A, eA, hA, hA2⟩ := mD_L hT.2.2.1 hN hn (show i < 13 by omega) hf
    obtain ⟨B, eB, hB, hB2⟩ := mD_W hT.2.2.2.1 hN hm (show i < 13 by omega)
    obtain ⟨C, eC, hC, hC2⟩ := mD_W hT.2.2.2.1 hN hn hf
    have h300 : bW (mBD w N) n fn < 300 := by omega
    have hC3 : C = bW (mBD w N) n fn := by
      rw [hC2] at h300 ⊢
      split at h300 <;> rename_i z
      · rw [if_pos z]
      · omega
    have i1 := nI_at ea e4 ef
    have o39 : w.1 39 x3.toNatClampNeg = nI m := by rw [i_c e3 (by omega)]; exact e39
    have i2 : (13 : Int32) * w.1 39 x3.toNatClampNeg + x4 = nI (13 * m + i) := nI_mr o39 e4 (nI_lit 13)
    have i3 : (13 : Int32) * a + f = nI (13 * n + fn) := nI_mr ea ef (nI_lit 13)
    have cA : w.2 59 ((169 : Int32) * a + 13 * x4 + f).toNatClampNeg = lN A := by rw [i_c i1 (by omega)]; exact eA
    have cB : w.2 60 ((13 : Int32) * w.1 39 x3.toNatClampNeg + x4).toNatClampNeg = lN B := by rw [i_c i2 (by omega)]; exact eB
    have cC : w.2 60 ((13 : Int32) * a + f).toNatClampNeg = lN C := by rw [i_c i3 (by omega)]; exact eC
    have nA : w.2 59 ((169 : Int32) * a + 13 * x4 + f).toNatClampNeg < 4000000000000000000 ↔ A < 4000000000000000000 := by rw [cA]; exact lL_lt (b := 4000000000000000000) (by omega) (by omega)
    refine qq_go_ok S (fun pc => Nat.beq pc 26 || Nat.beq pc 92) 80 ?_
    conv => whnf
    refine br_f (i_nge 13 e4 (by omega) (by omega)) ?_
    conv => whnf
    refine ⟨i_in 10816 i1 (by omega) (by decide), ?_⟩
    conv => whnf
    refine ⟨fun z => ?_, fun z => ?_⟩
    · conv => whnf
      exact qq_wk S (ih (i + 1) (by omega) _ (i_s e4)) ⟨rfl, rfl, rfl, rfl, rfl, trivial⟩
    · have z : A < 4000000000000000000 := by
        by_cases y : A < 4000000000000000000
        · exact y
        · exact absurd (lcmp_ge.mpr (fun u => y (nA.mp u))) z
      conv => whnf
      refine ⟨i_in 8 e3 (by omega) (by decide), ?_⟩
      conv => whnf
      refine ⟨i_in 832 i2 (by omega) (by decide), ?_⟩
      conv => whnf
      refine ⟨i_in 832 i3 (by omega) (by decide), ?_⟩
      conv => whnf
      refine br_nt (fun y => hs ?_) ?_
      · have y := lcmp0.mp y
        have y : w.2 60 ((13 : Int32) * w.1 39 x3.toNatClampNeg + x4).toNatClampNeg + w.2 59 ((169 : Int32) * a + 13 * x4 + f).toNatClampNeg = w.2 60 ((13 : Int32) * a + f).toNatClampNeg := y
        rw [cA, cB, cC, lN_add] at y
        have y := (lL_eq (by omega) (by omega)).mp y
        rw [hA2, hB2, if_pos (show A ≤ 1000000000000 by omega), if_pos (show B ≤ 1000000000000 by omega), y]
        exact hC3
      conv => whnf
      exact qq_wk S (ih (i + 1) (by omega) _ (i_s e4)) ⟨rfl, rfl, rfl, rfl, rfl, trivial⟩
set_option maxHeartbeats 4000000 in
set_option maxRecDepth 100000 in
theorem bd_X8_toState (k : Nat) : ∀ As w P K, qq_Sat ww_sh ww_ro (cs_X8_toState k) (qq_at 115 kd_X8_toState) none P K → TT_X8_toState (k) As w P → K 0 (lv_args 0 As) [] w := by
  intro As w P K S h
  unfold TT_X8_toState at h
  split at h
  · rename_i n f
    obtain ⟨⟨hT, hp, hp2, hn, hVk, hk, t, et, ht⟩, hq⟩ := h
    obtain ⟨ef, hf⟩ := qn_eq hp (by decide)
    obtain ⟨ea, ha⟩ := qn_eq hp2 (by decide)
    have hN := hT.1.2.1
    have hb := hT.2.2.2.2.2.1
    have hVk : bW (mBD w (qn (w.1 8 8))) (qn n) (qn f) < k := hVk
    have ht : t + bW (mBD w (qn (w.1 8 8))) (qn n) (qn f) + 1 ≤ 300 := ht
    obtain ⟨pn, m, hpn, hm, e42, e39, -⟩ := hT.2.1 (qn n) hn
    have o42 : w.1 42 n.toNatClampNeg = nI pn := e42
    have hpM : pn < qn (w.1 8 2) := by
      have := hT.2.2.2.2.2.2.2.2.1 (qn n) hn
      rw [e42, qn_nI (by omega)] at this
      exact this
    have eOw : bOw (mBD w (qn (w.1 8 8))) (qn n) = pn := by
      show (if qn n < qn (w.1 8 8) then qn (w.1 42 (qn n)) else 0) = pn
      rw [if_pos hn, e42]
      exact qn_nI (by omega)
    have eEn : bEn (mBD w (qn (w.1 8 8))) pn = m := by
      show (if pn < qn (w.1 8 2) then qn (w.1 39 pn) else 0) = m
      rw [if_pos hpM, e39]
      exact qn_nI (by omega)
    have qp : qn (w.1 42 n.toNatClampNeg) = pn := by rw [o42]; exact qn_nI (by omega)
    refine qq_go_ok S (fun pc => Nat.beq pc 26) 80 ?_
    conv => whnf
    refine ⟨hp2, ?_⟩
    conv => whnf
    refine ⟨hp2, ?_⟩
    conv => whnf
    refine ⟨fun h => ?_, fun h => ?_⟩
    · conv => whnf
      obtain ⟨d1, hd1, hd2⟩ := hb.2.2.2.2.2.2.2.2.1 (qn n) (qn f) hn hf (by omega)
      obtain ⟨d2, hd3, hd4⟩ := lst_ex (P := fun d => bW (mBD w (qn (w.1 8 8))) (bEn (mBD w (qn (w.1 8 8))) (bOw (mBD w (qn (w.1 8 8))) (qn n))) d + bL (mBD w (qn (w.1 8 8))) (qn n) d (qn f) = bW (mBD w (qn (w.1 8 8))) (qn n) (qn f)) hd2
      exact qq_wk S (ts_26 S (N := qn (w.1 8 8)) (x3 := w.1 42 n.toNatClampNeg) (d0 := d2) rfl hT ea hn ef hf o42 hpn hpM eOw hVk hk et ht ⟨by omega, hd3⟩ e39 hm eEn hq d2 0 (Nat.zero_add _) _ rfl) ⟨rfl, rfl, rfl, rfl, rfl, trivial⟩
    · have h : w.1 43 (qn n) = 0 := h
      have hK : bK (mBD w (qn (w.1 8 8))) (qn n) = 0 := by rw [mD_K hn]; exact h
      have hnE := hb.2.2.2.2.2.2.2.1 (qn n) hn hK
      rw [eOw] at hnE
      conv => whnf
      refine ⟨⟨hT, hp, i_in 8 o42 hpn (by decide), ?_, ?_, ?_, ?_, ?_, hk, t, et, ?_⟩, fun l hl hr => ?_⟩
      · show qn (w.1 42 n.toNatClampNeg) < _
        rw [qp]; exact hpM
      · show bEn (mBD w (qn (w.1 8 8))) (qn (w.1 42 n.toNatClampNeg)) < _
        rw [qp, ← hnE]; exact hn
      · show bOw (mBD w (qn (w.1 8 8))) (bEn (mBD w (qn (w.1 8 8))) (qn (w.1 42 n.toNatClampNeg))) = qn (w.1 42 n.toNatClampNeg)
        rw [qp, ← hnE]; exact eOw
      · show bK (mBD w (qn (w.1 8 8))) (bEn (mBD w (qn (w.1 8 8))) (qn (w.1 42 n.toNatClampNeg))) = 0
        rw [qp, ← hnE]; exact hK
      · show bW (mBD w (qn (w.1 8 8))) (bEn (mBD w (qn (w.1 8 8))) (qn (w.1 42 n.toNatClampNeg))) (qn f) < k
        rw [qp, ← hnE]; exact hVk
      · show t + bW (mBD w (qn (w.1 8 8))) (bEn (mBD w (qn (w.1 8 8))) (qn (w.1 42 n.toNatClampNeg))) (qn f) + 1 ≤ 300
        rw [qp, ← hnE]; exact ht
      have hl : l.length = bW (mBD w (qn (w.1 8 8))) (bEn (mBD w (qn (w.1 8 8))) (qn (w.1 42 n.toNatClampNeg))) (qn f) + 1 := hl
      have hr : ∀ d0, ∃ s', bRun (mBD w (qn (w.1 8 8))) l.reverse (bEn (mBD w (qn (w.1 8 8))) (qn (w.1 42 n.toNatClampNeg)), qn f, d0, []) s' := hr
      rw [qp, ← hnE] at hl hr
      conv => whnf
      exact hq l hl (fun d0 _ => hr d0)
  · exact h.elim
theorem ha_X8_toState (k : Nat) : ∀ As w P, TT_X8_toState k As w P → qq_wd As ≤ 7 := by
  intro As w P h
  unfold TT_X8_toState at h
  split at h
  · exact Nat.le_of_ble_eq_true rfl
  · exact h.elim
set_option maxRecDepth 100000 in
theorem MM_X8_toState (l : Launch) (k : Nat) (h_X8_toEnter : qq_M l ww_T ww_N vwCl ww_sh ww_ro ww_zs yX8_toEnter cX8_toEnter 9 none (ww_rm (2*k+7)) (TT_X8_toEnter (k))) (h_X8_toLevel : qq_M l ww_T ww_N vwCl ww_sh ww_ro ww_zs yX8_toLevel cX8_toLevel 8 none (ww_rm (2*k+5)) (TT_X8_toLevel (k))) : qq_M l ww_T ww_N vwCl ww_sh ww_ro ww_zs yX8_toState cX8_toState 7 none (ww_rm (2*k+8)) (TT_X8_toState (k)) := by
  refine qq_mk (host := RX7) (is := ki_X8_toState) (cs := cs_X8_toState k) (by decide) ww_k1 wl_X8 ww_so ww_so2 kc_X8_toState kv_X8_toState kg_X8_toState ?_ (ha_X8_toState _) (bd_X8_toState k)
  intro k i q hi hq
  match k, hi, hq with
  | 0, hi, hq => cases hi; cases hq; exact fun p e s m args below meth c D tys tC ad Q pc X hdg => qq_cS X ww_gd h_X8_toEnter kf_X8_toEnter.1 (Or.inl (ww_a6 (i := 95) (w := Cond.methodLink RX8 300 yX8_toEnter) rfl rfl)) kf_X8_toEnter.2.1 kf_X8_toEnter.2.2 ⟨by decide, by decide, by show _ = some 3; decide +kernel⟩ rfl rfl ⟨by simp only [ww_rm]; omega, by simp only [ww_rm]; omega⟩ ⟨Nat.le_refl _, Nat.le_refl _⟩ hdg
  | 1, hi, hq => cases hi; cases hq; exact fun p e s m args below meth c D tys tC ad Q pc X hdg => qq_cV (ci := 8) X ww_gd (M_X8_at l) kf_X8_at.1 (Or.inl (ww_a6 (i := 61) (w := Cond.methodLink RX8 251 yX8_at) rfl rfl)) kf_X8_at.2.1 kf_X8_at.2.2.1 kf_X8_at.2.2.2 ⟨by decide, by decide, by decide +kernel⟩ rfl rfl rfl ⟨by simp only [ww_rm]; omega, by simp only [ww_rm]; omega⟩ ⟨Nat.le_refl _, Nat.le_refl _⟩ hv_X8_at hdg
  | 2, hi, hq => cases hi; cases hq; exact fun p e s m args below meth c D tys tC ad Q pc X hdg => qq_cS X ww_gd h_X8_toLevel kf_X8_toLevel.1 (Or.inl (ww_a6 (i := 102) (w := Cond.methodLink RX8 303 yX8_toLevel) rfl rfl)) kf_X8_toLevel.2.1 kf_X8_toLevel.2.2 ⟨by decide, by decide, by show _ = some 4; decide +kernel⟩ rfl rfl ⟨by simp only [ww_rm]; omega, by simp only [ww_rm]; omega⟩ ⟨Nat.le_refl _, Nat.le_refl _⟩ hdg
  | n + 3, hi, hq => simp [cs_X8_toState] at hq
theorem MM_no {l : Launch} {y : MethodName} {b : ByteArray} {nL : Nat} {ret : Option FieldType} {rm : Room} {T : qq_t} (h : ∀ As w P, ¬ T As w P) : qq_M l ww_T ww_N vwCl ww_sh ww_ro ww_zs y b nL ret rm T := fun _ _ _ _ _ As w P hT => absurd hT (h As w P)
theorem toLevel_0 : ∀ As w P, ¬ TT_X8_toLevel 0 As w P := by
  intro As w P h
  unfold TT_X8_toLevel at h
  split at h
  · exact absurd h.1.2.2.2.2.2.1 (Nat.not_lt_zero _)
  · exact h
theorem toEnter_0 : ∀ As w P, ¬ TT_X8_toEnter 0 As w P := by
  intro As w P h
  unfold TT_X8_toEnter at h
  split at h
  · exact absurd h.1.2.2.2.2.2.2.2.1 (Nat.not_lt_zero _)
  · exact h
theorem MM_lev (l : Launch) : ∀ k, qq_M l ww_T ww_N vwCl ww_sh ww_ro ww_zs yX8_toLevel cX8_toLevel 8 none (ww_rm (2 * k + 5)) (TT_X8_toLevel k)
  | 0 => MM_no toLevel_0
  | k + 1 => MM_X8_toLevel l k (MM_X8_toReturn l k (MM_lev l k)) (MM_lev l k)
theorem MM_ent (l : Launch) : ∀ k, qq_M l ww_T ww_N vwCl ww_sh ww_ro ww_zs yX8_toEnter cX8_toEnter 9 none (ww_rm (2 * k + 7)) (TT_X8_toEnter k)
  | 0 => MM_no toEnter_0
  | k + 1 => MM_X8_toEnter l k (MM_X8_toState l k (MM_ent l k) (MM_lev l k))
abbrev T_X8_toState : qq_t := TT_X8_toState 300
theorem M_X8_toState (l : Launch) : qq_M l ww_T ww_N vwCl ww_sh ww_ro ww_zs yX8_toState cX8_toState 7 none (ww_rm 608) T_X8_toState := MM_X8_toState l 300 (MM_ent l 300) (MM_lev l 300)
abbrev cs_X8_length : List (Nat × qq_t) := [(2, T_X8_isNode), (3, T_X8_in), (1, T_X8_isSolved), (1, T_X8_measure), (3, T_X8_holdsAt)]
def T_X8_length : qq_t := fun As w P => match As with
  | [.ref 8, .int a0, .int a1] => qq_go ww_sh ww_ro cs_X8_length (qq_at 64 kd_X8_length) (some .long) (fun _ => false) P qq_no 35 0 (lv_args 0 [.ref 8, .int a0, .int a1]) [] w
  | _ => False
theorem bd_X8_length : ∀ As w P K, qq_Sat ww_sh ww_ro cs_X8_length (qq_at 64 kd_X8_length) (some .long) P K → T_X8_length As w P → K 0 (lv_args 0 As) [] w := by
  intro As w P K S h
  unfold T_X8_length at h
  split at h
  · exact qq_go_all S h
  · exact h.elim
theorem ha_X8_length : ∀ As w P, T_X8_length As w P → qq_wd As ≤ 3 := by
  intro As w P h
  unfold T_X8_length at h
  split at h
  · exact Nat.le_of_ble_eq_true rfl
  · exact h.elim
theorem hv_X8_length : ∀ As w P, T_X8_length As w P → ∃ (k : Nat) (r : List Value) (fs : List Nat), As = .ref k :: r ∧ ww_sh[k]? = some (.inr (8, fs)) := by
  intro As w P h
  unfold T_X8_length at h
  split at h
  · exact ⟨_, _, _, rfl, rfl⟩
  · exact h.elim
set_option maxRecDepth 100000 in
theorem M_X8_length (l : Launch) : qq_M l ww_T ww_N vwCl ww_sh ww_ro ww_zs yX8_length cX8_length 3 (some .long) (ww_rm 6) T_X8_length := by
  refine qq_mk (host := RX7) (is := ki_X8_length) (cs := cs_X8_length) (by decide) ww_k1 wl_X8 ww_so ww_so2 kc_X8_length kv_X8_length kg_X8_length ?_ ha_X8_length bd_X8_length
  intro k i q hi hq
  match k, hi, hq with
  | 0, hi, hq => cases hi; cases hq; exact fun p e s m args below meth c D tys tC ad Q pc X hdg => qq_cV (ci := 8) X ww_gd (M_X8_isNode l) kf_X8_isNode.1 (Or.inl (ww_a5 (i := 125) (w := Cond.methodLink RX8 144 yX8_isNode) rfl rfl)) kf_X8_isNode.2.1 kf_X8_isNode.2.2.1 kf_X8_isNode.2.2.2 ⟨by decide, by decide, by decide +kernel⟩ rfl rfl rfl ⟨by decide, by decide⟩ ⟨Nat.le_refl _, Nat.le_refl _⟩ hv_X8_isNode hdg
  | 1, hi, hq => cases hi; cases hq; exact fun p e s m args below meth c D tys tC ad Q pc X hdg => qq_cS X ww_gd (M_X8_in l) kf_X8_in.1 (Or.inl (ww_a5 (i := 76) (w := Cond.methodLink RX8 105 yX8_in) rfl rfl)) kf_X8_in.2.1 kf_X8_in.2.2 ⟨by decide, by decide, by decide +kernel⟩ rfl rfl ⟨by decide, by decide⟩ ⟨Nat.le_refl _, Nat.le_refl _⟩ hdg
  | 2, hi, hq => cases hi; cases hq; exact fun p e s m args below meth c D tys tC ad Q pc X hdg => qq_cV (ci := 8) X ww_gd (M_X8_isSolved l) kf_X8_isSolved.1 (Or.inl (ww_a6 (i := 22) (w := Cond.methodLink RX8 243 yX8_isSolved) rfl rfl)) kf_X8_isSolved.2.1 kf_X8_isSolved.2.2.1 kf_X8_isSolved.2.2.2 ⟨by decide, by decide, by decide +kernel⟩ rfl rfl rfl ⟨by decide, by decide⟩ ⟨Nat.le_refl _, Nat.le_refl _⟩ hv_X8_isSolved hdg
  | 3, hi, hq => cases hi; cases hq; exact fun p e s m args below meth c D tys tC ad Q pc X hdg => qq_cV (ci := 8) X ww_gd (M_X8_measure l) kf_X8_measure.1 (Or.inl (ww_a6 (i := 56) (w := Cond.methodLink RX8 282 yX8_measure) rfl rfl)) kf_X8_measure.2.1 kf_X8_measure.2.2.1 kf_X8_measure.2.2.2 ⟨by decide, by decide, by decide +kernel⟩ rfl rfl rfl ⟨by decide, by decide⟩ ⟨Nat.le_refl _, Nat.le_refl _⟩ hv_X8_measure hdg
  | 4, hi, hq => cases hi; cases hq; exact fun p e s m args below meth c D tys tC ad Q pc X hdg => qq_cV (ci := 8) X ww_gd (M_X8_holdsAt l) kf_X8_holdsAt.1 (Or.inl (ww_a5 (i := 238) (w := Cond.methodLink RX8 214 yX8_holdsAt) rfl rfl)) kf_X8_holdsAt.2.1 kf_X8_holdsAt.2.2.1 kf_X8_holdsAt.2.2.2 ⟨by decide, by decide, by decide +kernel⟩ rfl rfl rfl ⟨by decide, by decide⟩ ⟨Nat.le_refl _, Nat.le_refl _⟩ hv_X8_holdsAt hdg
  | n + 5, hi, hq => simp [cs_X8_length] at hq
abbrev cs_X8_track : List (Nat × qq_t) := [(2, T_X8_isNode), (3, T_X8_in), (1, T_X8_isSolved), (3, T_X8_holdsAt), (1, T_X8_measure), (3, T_X8_toState)]
def T_X8_track : qq_t := fun As w P => match As with
  | [.ref 8, .int a0, .int a1] => qq_go ww_sh ww_ro cs_X8_track (qq_at 87 kd_X8_track) (some .int) (fun _ => false) P qq_no 52 0 (lv_args 0 [.ref 8, .int a0, .int a1]) [] w
  | _ => False
theorem bd_X8_track : ∀ As w P K, qq_Sat ww_sh ww_ro cs_X8_track (qq_at 87 kd_X8_track) (some .int) P K → T_X8_track As w P → K 0 (lv_args 0 As) [] w := by
  intro As w P K S h
  unfold T_X8_track at h
  split at h
  · exact qq_go_all S h
  · exact h.elim
theorem ha_X8_track : ∀ As w P, T_X8_track As w P → qq_wd As ≤ 3 := by
  intro As w P h
  unfold T_X8_track at h
  split at h
  · exact Nat.le_of_ble_eq_true rfl
  · exact h.elim
theorem hv_X8_track : ∀ As w P, T_X8_track As w P → ∃ (k : Nat) (r : List Value) (fs : List Nat), As = .ref k :: r ∧ ww_sh[k]? = some (.inr (8, fs)) := by
  intro As w P h
  unfold T_X8_track at h
  split at h
  · exact ⟨_, _, _, rfl, rfl⟩
  · exact h.elim
set_option maxRecDepth 100000 in
theorem M_X8_track (l : Launch) : qq_M l ww_T ww_N vwCl ww_sh ww_ro ww_zs yX8_track cX8_track 3 (some .int) (ww_rm 609) T_X8_track := by
  refine qq_mk (host := RX7) (is := ki_X8_track) (cs := cs_X8_track) (by decide) ww_k1 wl_X8 ww_so ww_so2 kc_X8_track kv_X8_track kg_X8_track ?_ ha_X8_track bd_X8_track
  intro k i q hi hq
  match k, hi, hq with
  | 0, hi, hq => cases hi; cases hq; exact fun p e s m args below meth c D tys tC ad Q pc X hdg => qq_cV (ci := 8) X ww_gd (M_X8_isNode l) kf_X8_isNode.1 (Or.inl (ww_a5 (i := 125) (w := Cond.methodLink RX8 144 yX8_isNode) rfl rfl)) kf_X8_isNode.2.1 kf_X8_isNode.2.2.1 kf_X8_isNode.2.2.2 ⟨by decide, by decide, by decide +kernel⟩ rfl rfl rfl ⟨by decide, by decide⟩ ⟨Nat.le_refl _, Nat.le_refl _⟩ hv_X8_isNode hdg
  | 1, hi, hq => cases hi; cases hq; exact fun p e s m args below meth c D tys tC ad Q pc X hdg => qq_cS X ww_gd (M_X8_in l) kf_X8_in.1 (Or.inl (ww_a5 (i := 76) (w := Cond.methodLink RX8 105 yX8_in) rfl rfl)) kf_X8_in.2.1 kf_X8_in.2.2 ⟨by decide, by decide, by decide +kernel⟩ rfl rfl ⟨by decide, by decide⟩ ⟨Nat.le_refl _, Nat.le_refl _⟩ hdg
  | 2, hi, hq => cases hi; cases hq; exact fun p e s m args below meth c D tys tC ad Q pc X hdg => qq_cV (ci := 8) X ww_gd (M_X8_isSolved l) kf_X8_isSolved.1 (Or.inl (ww_a6 (i := 22) (w := Cond.methodLink RX8 243 yX8_isSolved) rfl rfl)) kf_X8_isSolved.2.1 kf_X8_isSolved.2.2.1 kf_X8_isSolved.2.2.2 ⟨by decide, by decide, by decide +kernel⟩ rfl rfl rfl ⟨by decide, by decide⟩ ⟨Nat.le_refl _, Nat.le_refl _⟩ hv_X8_isSolved hdg
  | 3, hi, hq => cases hi; cases hq; exact fun p e s m args below meth c D tys tC ad Q pc X hdg => qq_cV (ci := 8) X ww_gd (M_X8_holdsAt l) kf_X8_holdsAt.1 (Or.inl (ww_a5 (i := 238) (w := Cond.methodLink RX8 214 yX8_holdsAt) rfl rfl)) kf_X8_holdsAt.2.1 kf_X8_holdsAt.2.2.1 kf_X8_holdsAt.2.2.2 ⟨by decide, by decide, by decide +kernel⟩ rfl rfl rfl ⟨by decide, by decide⟩ ⟨Nat.le_refl _, Nat.le_refl _⟩ hv_X8_holdsAt hdg
  | 4, hi, hq => cases hi; cases hq; exact fun p e s m args below meth c D tys tC ad Q pc X hdg => qq_cV (ci := 8) X ww_gd (M_X8_measure l) kf_X8_measure.1 (Or.inl (ww_a6 (i := 56) (w := Cond.methodLink RX8 282 yX8_measure) rfl rfl)) kf_X8_measure.2.1 kf_X8_measure.2.2.1 kf_X8_measure.2.2.2 ⟨by decide, by decide, by decide +kernel⟩ rfl rfl rfl ⟨by decide, by decide⟩ ⟨Nat.le_refl _, Nat.le_refl _⟩ hv_X8_measure hdg
  | 5, hi, hq => cases hi; cases hq; exact fun p e s m args below meth c D tys tC ad Q pc X hdg => qq_cS X ww_gd (M_X8_toState l) kf_X8_toState.1 (Or.inl (ww_a6 (i := 92) (w := Cond.methodLink RX8 296 yX8_toState) rfl rfl)) kf_X8_toState.2.1 kf_X8_toState.2.2 ⟨by decide, by decide, by decide +kernel⟩ rfl rfl ⟨by decide, by decide⟩ ⟨Nat.le_refl _, Nat.le_refl _⟩ hdg
  | n + 6, hi, hq => simp [cs_X8_track] at hq
