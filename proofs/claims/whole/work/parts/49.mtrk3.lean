theorem r_div169 {x : Int32} {c : Nat} (e : x = nI c) (hc : c < 2 ^ 31) : x / 169 = nI (c / 169) := by
  have : x / nI 169 = nI (c / 169) := by rw [e]; exact pk_div hc (by omega) (by omega)
  exact this
abbrev cs_X8_toReturn (k : Nat) : List (Nat × qq_t) := [(4, T_X8_at), (4, T_X8_flows), (4, TT_X8_toLevel (k)), (4, T2_X8_comes)]
theorem tr_239 {k : Nat} {P : Option Value → qq_w → Prop} {K : Nat → qq_L → List Value → qq_w → Prop} (S : qq_Sat ww_sh ww_ro (cs_X8_toReturn k) (qq_at 292 kd_X8_toReturn) none P K) {w : qq_w} {a d f x6 x7 x9 x10 x11 : Int32} {n dn fn V N t c p l g h e : Nat} (eN : qn (w.1 8 8) = N) (hT : mTrk w N) (ea : a = nI n) (hn : n < N) (ed : d = nI dn) (hd : dn < 13) (ef : f = nI fn) (hf : fn < 13) (hV : bL (mBD w N) n dn fn = V + 1) (hVk : V < k) (hk : k < 300) (et : w.1 8 44 = nI t) (ht : t + V + 1 ≤ 300)
    (h10 : bK (mBD w N) n = 10) (ePa : bPa (mBD w N) n = c) (hc : c < N) (k9 : w.1 43 c = 9) (e6 : x6 = nI c) (ep : w.1 47 c = nI p) (hp8 : p < 8) (hl : l + 1 < N) (e39 : w.1 39 p = nI l) (e7 : x7 = nI (l + 1)) (eCa : bCa (mBD w N) c = p) (eLe : bLe (mBD w N) p = l + 1) (eEn : bEn (mBD w N) p = l) (e9 : x9 = nI g) (e10 : x10 = nI h) (e11 : x11 = nI e) (hg : g < 13) (hh : h < 13) (he : e < 13)
    (hno : ∀ g, ¬ bPA (mBD w N) n dn fn g) (hx : lst (bPT (mBD w N) n dn fn) (169 * g + 13 * h + e))
    (hq : ∀ l : List (Nat × Nat × Nat), l.length = bL (mBD w N) n dn fn → (∀ st, bRun (mBD w N) l.reverse (n, fn, dn, st) (bEn (mBD w N) (bOw (mBD w N) n), dn, dn, st)) → P none (wApp w l)) :
    K 239 [(0, .ref 8), (1, .int d), (2, .int a), (3, .int f), (6, .int x6), (7, .int x7), (9, .int x9), (10, .int x10), (11, .int x11)] [] w := by
  have hP := hT.1
  have hN := hP.2.1
  have hb := hT.2.2.2.2.2.1
  have hx' := hx
  obtain ⟨hx1, hx2⟩ := hx
  unfold bPT at hx1
  rw [show (169 * g + 13 * h + e) / 169 = g by omega, show (169 * g + 13 * h + e) / 13 % 13 = h by omega, show (169 * g + 13 * h + e) % 13 = e by omega, ePa, eCa, eLe, hV] at hx1
  obtain ⟨y1, y2, y3⟩ := hx1
  have q6 : qn x6 = c := by rw [e6]; exact qn_nI (by omega)
  have q7 : qn x7 = l + 1 := by rw [e7]; exact qn_nI (by omega)
  have q9 : qn x9 = g := by rw [e9]; exact qn_nI (by omega)
  have q10 : qn x10 = h := by rw [e10]; exact qn_nI (by omega)
  have q11 : qn x11 = e := by rw [e11]; exact qn_nI (by omega)
  have qd : qn d = dn := by rw [ed]; exact qn_nI (by omega)
  refine qq_go_ok S (fun _ => false) 80 ?_
  conv => whnf
  refine ⟨⟨by rw [eN]; exact hT, i_in 13 ed hd (by decide), i_in 13 e9 hg (by decide), i_in 64 e6 (by omega) (by decide), by rw [eN, q6]; exact hc, ?_, by omega, t, et, ?_⟩, fun l1 hl1 hr1 => ?_⟩
  · show bL (mBD w (qn (w.1 8 8))) (qn x6) (qn d) (qn x9) < k
    rw [eN, q6, qd, q9]; omega
  · show t + bL (mBD w (qn (w.1 8 8))) (qn x6) (qn d) (qn x9) ≤ 300
    rw [eN, q6, qd, q9]; omega
  have hl1 : l1.length = bL (mBD w (qn (w.1 8 8))) (qn x6) (qn d) (qn x9) := hl1
  have hr1 : ∀ st, bRun (mBD w (qn (w.1 8 8))) l1.reverse (qn x6, qn x9, qn d, st) (bEn (mBD w (qn (w.1 8 8))) (bOw (mBD w (qn (w.1 8 8))) (qn x6)), qn d, qn d, st) := hr1
  rw [eN, q6, qd, q9] at hl1 hr1
  have k1 := wApp_tk l1 w
  have e44 := wApp_44 l1 w t et
  have o47 : (wApp w l1).1 47 x6.toNatClampNeg = nI p := by rw [k1.2.1 47 (by decide), i_c e6 (by omega)]; exact ep
  have o39 : (wApp w l1).1 39 ((wApp w l1).1 47 x6.toNatClampNeg).toNatClampNeg = nI l := by rw [i_c o47 (by omega), k1.2.1 39 (by decide)]; exact e39
  conv => whnf
  refine ⟨i_in 64 e6 (by omega) (by decide), ?_⟩
  conv => whnf
  refine ⟨i_in 8 o47 (by omega) (by decide), ?_⟩
  conv => whnf
  refine ⟨i_in 300 e44 (by omega) (by decide), ?_⟩
  have ew : wCome (wApp w l1) ((wApp w l1).1 39 ((wApp w l1).1 47 x6.toNatClampNeg).toNatClampNeg) x10 3 = wApp w (l1 ++ [(l, h, 3)]) := by
    rw [o39, e10, wApp_app]
    rfl
  have ew' : wCome (wApp w l1) ((8, (wApp w l1).1 39).2 ((64, (wApp w l1).1 47).2 x6.toNatClampNeg).toNatClampNeg) x10 3 = wApp w (l1 ++ [(l, h, 3)]) := ew
  rw [ew']
  have k2 := wApp_tk (l1 ++ [(l, h, 3)]) w
  have e44' := wApp_44 (l1 ++ [(l, h, 3)]) w t et
  have hlen : (l1 ++ [(l, h, 3)]).length = l1.length + 1 := by simp only [List.length_append, List.length_cons, List.length_nil]
  rw [hlen] at e44'
  have eD2 : mBD (wApp w (l1 ++ [(l, h, 3)])) N = mBD w N := mBD_tk k2 N
  have eN2 : qn ((wApp w (l1 ++ [(l, h, 3)])).1 8 8) = N := by rw [k2.2.2 8 (by decide) (by decide)]; exact eN
  have hT2 := mTrk_tk k2 hT
  generalize hw2 : wApp w (l1 ++ [(l, h, 3)]) = w2 at k2 e44' eD2 eN2 hT2
  conv => whnf
  refine ⟨⟨by rw [eN2]; exact hT2, i_in 13 e10 hh (by decide), i_in 13 e11 he (by decide), i_in 64 e7 (by omega) (by decide), by rw [eN2, q7]; exact hl, ?_, by omega, t + (l1.length + 1), e44', ?_⟩, fun l2 hl2 hr2 => ?_⟩
  · show bL (mBD w2 (qn (w2.1 8 8))) (qn x7) (qn x10) (qn x11) < k
    rw [eN2, eD2, q7, q10, q11]; omega
  · show t + (l1.length + 1) + bL (mBD w2 (qn (w2.1 8 8))) (qn x7) (qn x10) (qn x11) ≤ 300
    rw [eN2, eD2, q7, q10, q11]; omega
  have hl2 : l2.length = bL (mBD w2 (qn (w2.1 8 8))) (qn x7) (qn x10) (qn x11) := hl2
  have hr2 : ∀ st, bRun (mBD w2 (qn (w2.1 8 8))) l2.reverse (qn x7, qn x11, qn x10, st) (bEn (mBD w2 (qn (w2.1 8 8))) (bOw (mBD w2 (qn (w2.1 8 8))) (qn x7)), qn x10, qn x10, st) := hr2
  rw [eN2, eD2, q7, q10, q11] at hl2 hr2
  have e44'' := wApp_44 l2 w2 _ e44'
  conv => whnf
  refine ⟨i_in 300 e44'' (by omega) (by decide), ?_⟩
  conv => whnf
  have key := hq ((l1 ++ [(l, h, 3)]) ++ (l2 ++ [(n, fn, 4)])) (by simp only [List.length_append, List.length_cons, List.length_nil]; omega) (fun st => ?_)
  · rw [wApp_app, hw2, wApp_app] at key
    rw [ea, ef]
    exact key
  · have hb6 := hb.2.2.2.2.2.1 c hc (by rw [mD_K hc]; exact k9)
    rw [eCa, eLe] at hb6
    have hb5 := hb.2.2.2.2.1 n hn h10
    rw [ePa] at hb5
    have hb7 := hb.2.2.2.2.2.2.1 (l + 1) hl
    rw [hb6.2, eEn] at hb7
    have r2 := hr2 ((c, g, dn) :: st)
    rw [hb6.2, eEn] at r2
    have r1 := hr1 st
    rw [hb5.2.1] at r1
    rw [List.reverse_append, List.reverse_append, List.reverse_append]
    refine ⟨(l + 1, e, h, (c, g, dn) :: st), ⟨rfl, rfl, Or.inr (Or.inr (Or.inr (Or.inr (Or.inl ⟨h10, hno, rfl, hh, he, ⟨g, hx', ?_⟩, ?_⟩))))⟩, ?_⟩
    · show (c, g, dn) :: st = _
      rw [ePa]
    · show l + 1 = _
      rw [ePa, eCa, eLe]
    · refine bRun_app l2.reverse _ _ _ _ r2 ⟨(c, g, dn, st), ⟨rfl, rfl, Or.inl ⟨hb7.2.1, rfl, rfl⟩⟩, r1⟩
theorem tr_168 {k : Nat} {P : Option Value → qq_w → Prop} {K : Nat → qq_L → List Value → qq_w → Prop} (S : qq_Sat ww_sh ww_ro (cs_X8_toReturn k) (qq_at 292 kd_X8_toReturn) none P K) {w : qq_w} {a d f x6 x7 x8 x9 x10 x11 b : Int32} {v : Int64} {dn V N c l g h e : Nat} (hT : mTrk w N) (ed : d = nI dn) (hd : dn < 13) (ev : v = lN V) (hV : V < 300) (hc : c < N) (e6 : x6 = nI c) (hl : l + 1 < N) (e7 : x7 = nI (l + 1)) (e9 : x9 = nI g) (e10 : x10 = nI h) (e11 : x11 = nI e) (hg : g < 13) (hh : h < 13) (he : e < 13) {R : Prop} (hR : (b = 1 ∧ R) ∨ (b = 0 ∧ ¬ R))
    (hy : R ∧ bL (mBD w N) c dn g + bL (mBD w N) (l + 1) h e + 2 = V + 1 → K 239 [(0, .ref 8), (1, .int d), (2, .int a), (3, .int f), (6, .int x6), (7, .int x7), (9, .int x9), (10, .int x10), (11, .int x11)] [] w)
    (hn : ¬ (R ∧ bL (mBD w N) c dn g + bL (mBD w N) (l + 1) h e + 2 = V + 1) → K 95 [(0, .ref 8), (1, .int d), (2, .int a), (3, .int f), (4, .long v), (6, .int x6), (7, .int x7), (8, .int (x8 + 1))] [] w) :
    K 168 [(0, .ref 8), (1, .int d), (2, .int a), (3, .int f), (4, .long v), (6, .int x6), (7, .int x7), (8, .int x8), (9, .int x9), (10, .int x10), (11, .int x11)] [.int b] w := by
  have hN := hT.1.2.1
  obtain ⟨A, eA, hA, hA2⟩ := mD_L hT.2.2.1 hN hc hd hg
  obtain ⟨B, eB, hB, hB2⟩ := mD_L hT.2.2.1 hN hl hh he
  have i1 := nI_at e6 ed e9
  have i2 := nI_at e7 e10 e11
  have cA : w.2 59 ((169 : Int32) * x6 + 13 * d + x9).toNatClampNeg = lN A := by rw [i_c i1 (by omega)]; exact eA
  have cB : w.2 59 ((169 : Int32) * x7 + 13 * x10 + x11).toNatClampNeg = lN B := by rw [i_c i2 (by omega)]; exact eB
  have nA : w.2 59 ((169 : Int32) * x6 + 13 * d + x9).toNatClampNeg < 4000000000000000000 ↔ A < 4000000000000000000 := by rw [cA]; exact lL_lt (b := 4000000000000000000) (by omega) (by omega)
  have nB : w.2 59 ((169 : Int32) * x7 + 13 * x10 + x11).toNatClampNeg < 4000000000000000000 ↔ B < 4000000000000000000 := by rw [cB]; exact lL_lt (b := 4000000000000000000) (by omega) (by omega)
  have hs : w.2 59 ((169 : Int32) * x6 + 13 * d + x9).toNatClampNeg + w.2 59 ((169 : Int32) * x7 + 13 * x10 + x11).toNatClampNeg + 1 = lN (A + B + 1) := by
    rw [cA, cB, lN_add, lN_1]
  rw [hA2, hB2] at hy hn
  refine qq_go_ok S (fun pc => Nat.beq pc 95 || Nat.beq pc 239) 80 ?_
  conv => whnf
  refine ⟨i_in 10816 i1 (by omega) (by decide), ?_⟩
  conv => whnf
  refine ⟨i_in 10816 i2 (by omega) (by decide), ?_⟩
  conv => whnf
  refine ⟨fun z => ?_, fun z => ?_⟩
  · have hR : ¬ R := by
      rcases hR with ⟨r1, -⟩ | ⟨-, r2⟩
      · exact absurd (r1.symm.trans z) (by decide)
      · exact r2
    conv => whnf
    exact qq_wk S (hn fun y => hR y.1) ⟨rfl, rfl, rfl, rfl, rfl, rfl, rfl, rfl, trivial⟩
  · have hR : R := by
      rcases hR with ⟨-, r1⟩ | ⟨r1, -⟩
      · exact r1
      · exact absurd r1 z
    conv => whnf
    refine ⟨fun z1 => ?_, fun z1 => ?_⟩
    · have z1 : ¬ A < 4000000000000000000 := fun y => lcmp_ge.mp z1 (nA.mpr y)
      conv => whnf
      refine qq_wk S (hn fun y => ?_) ⟨rfl, rfl, rfl, rfl, rfl, rfl, rfl, rfl, trivial⟩
      have y := y.2
      rw [if_neg (show ¬ A ≤ 1000000000000 by omega)] at y
      omega
    · have z1 : A < 4000000000000000000 := by
        by_cases y : A < 4000000000000000000
        · exact y
        · exact absurd (lcmp_ge.mpr (fun u => y (nA.mp u))) z1
      conv => whnf
      refine ⟨fun z2 => ?_, fun z2 => ?_⟩
      · have z2 : ¬ B < 4000000000000000000 := fun y => lcmp_ge.mp z2 (nB.mpr y)
        conv => whnf
        refine qq_wk S (hn fun y => ?_) ⟨rfl, rfl, rfl, rfl, rfl, rfl, rfl, rfl, trivial⟩
        have y := y.2
        rw [if_neg (show ¬ B ≤ 1000000000000 by omega)] at y
        omega
      · have z2 : B < 4000000000000000000 := by
          by_cases y : B < 4000000000000000000
          · exact y
          · exact absurd (lcmp_ge.mpr (fun u => y (nB.mp u))) z2
        rw [if_pos (show A ≤ 1000000000000 by omega), if_pos (show B ≤ 1000000000000 by omega)] at hy hn
        have hc3 : w.2 59 ((169 : Int32) * x6 + 13 * d + x9).toNatClampNeg + w.2 59 ((169 : Int32) * x7 + 13 * x10 + x11).toNatClampNeg + 1 = v ↔ A + B + 1 = V := by
          rw [hs, ev]; exact lL_eq (by omega) (by omega)
        conv => whnf
        refine ⟨fun z3 => ?_, fun z3 => ?_⟩
        · conv => whnf
          refine qq_wk S (hn fun y => z3 (lcmp0.mpr (hc3.mpr (by omega)))) ⟨rfl, rfl, rfl, rfl, rfl, rfl, rfl, rfl, trivial⟩
        · have z3 := hc3.mp (lcmp0.mp z3)
          conv => whnf
          exact qq_wk S (hy ⟨hR, by omega⟩) ⟨rfl, rfl, rfl, rfl, rfl, rfl, rfl, rfl, rfl, trivial⟩
theorem tr_95 {k : Nat} {P : Option Value → qq_w → Prop} {K : Nat → qq_L → List Value → qq_w → Prop} (S : qq_Sat ww_sh ww_ro (cs_X8_toReturn k) (qq_at 292 kd_X8_toReturn) none P K) {w : qq_w} {a d f x6 x7 : Int32} {v : Int64} {n dn fn V N t c p l x : Nat} (eN : qn (w.1 8 8) = N) (hT : mTrk w N) (ea : a = nI n) (hn : n < N) (ed : d = nI dn) (hd : dn < 13) (ef : f = nI fn) (hf : fn < 13) (ev : v = lN V) (hV : bL (mBD w N) n dn fn = V + 1) (hVk : V < k) (hk : k < 300) (et : w.1 8 44 = nI t) (ht : t + V + 1 ≤ 300)
    (h10 : bK (mBD w N) n = 10) (ePa : bPa (mBD w N) n = c) (hc : c < N) (k9 : w.1 43 c = 9) (e6 : x6 = nI c) (ep : w.1 47 c = nI p) (hp8 : p < 8) (hl : l + 1 < N) (e39 : w.1 39 p = nI l) (e7 : x7 = nI (l + 1)) (eCa : bCa (mBD w N) c = p) (eLe : bLe (mBD w N) p = l + 1) (eEn : bEn (mBD w N) p = l)
    (hno : ∀ g, ¬ bPA (mBD w N) n dn fn g) (hx : lst (bPT (mBD w N) n dn fn) x) (hx2 : x < 2197)
    (hq : ∀ l : List (Nat × Nat × Nat), l.length = bL (mBD w N) n dn fn → (∀ st, bRun (mBD w N) l.reverse (n, fn, dn, st) (bEn (mBD w N) (bOw (mBD w N) n), dn, dn, st)) → P none (wApp w l)) :
    ∀ r i, i + r = x → ∀ x8 : Int32, x8 = nI i → K 95 [(0, .ref 8), (1, .int d), (2, .int a), (3, .int f), (4, .long v), (6, .int x6), (7, .int x7), (8, .int x8)] [] w := by
  have hP := hT.1
  have hN := hP.2.1
  have q6 : qn x6 = c := by rw [e6]; exact qn_nI (by omega)
  intro r
  induction r with
  | zero =>
    intro i hi x8 e8
    have : i = x := by omega
    subst this
    have d9 := r_div169 e8 (by omega)
    have d13 := r_div e8 (by omega)
    have d10 := r_rem d13 (by omega)
    have d11 := r_rem e8 (by omega)
    have hx1 := hx.1
    unfold bPT at hx1
    rw [ePa, eCa, eLe, hV] at hx1
    obtain ⟨y1, y2, y3⟩ := hx1
    have ex : 169 * (i / 169) + 13 * (i / 13 % 13) + i % 13 = i := by omega
    have key : K 168 [(0, .ref 8), (1, .int d), (2, .int a), (3, .int f), (4, .long v), (6, .int x6), (7, .int x7), (8, .int x8), (9, .int (x8 / 169)), (10, .int (x8 / 13 - x8 / 13 / 13 * 13)), (11, .int (x8 - x8 / 13 * 13))] [.int 1] w :=
      tr_168 S hT ed hd ev (by omega) hc e6 hl e7 d9 d10 d11 (by omega) (by omega) (by omega) (R := True) (Or.inl ⟨rfl, trivial⟩) (fun _ => tr_239 S (l := l) (p := p) (c := c) eN hT ea hn ed hd ef hf hV hVk hk et ht h10 ePa hc k9 e6 ep hp8 hl e39 e7 eCa eLe eEn d9 d10 d11 (by omega) (by omega) (by omega) hno (by rw [ex]; exact hx) hq) (fun z => absurd ⟨trivial, y3⟩ z)
    refine qq_go_ok S (fun pc => Nat.beq pc 95 || Nat.beq pc 168) 80 ?_
    conv => whnf
    refine br_f (i_nge 2197 e8 (by omega) (by omega)) ?_
    conv => whnf
    refine ⟨by decide, ?_⟩
    conv => whnf
    refine ⟨by decide, ?_⟩
    conv => whnf
    refine ⟨by decide, ?_⟩
    conv => whnf
    refine ⟨by decide, ?_⟩
    conv => whnf
    refine ⟨⟨i_in 64 e6 (by omega) (by decide), i_in 3 (k := 1) rfl (by omega) (by decide), i_in 13 d9 (by omega) (by decide), by rw [q6]; exact hP.2.2.2.2.1 c hc⟩, fun u hu => ?_⟩
    have hu : mTgt w c 1 (nI (i / 169)) u := by rw [← q6, ← d9]; exact hu
    conv => whnf
    refine br_nf ((tl_bit hc (by omega) d10 (by omega) hu).mpr y1) ?_
    conv => whnf
    refine ⟨⟨i_in 64 e6 (by omega) (by decide), i_in 3 (k := 2) rfl (by omega) (by decide), i_in 13 d11 (by omega) (by decide), by rw [q6]; exact hP.2.2.2.2.1 c hc⟩, fun u2 hu2 => ?_⟩
    have hu2 : mTgt w c 2 (nI (i % 13)) u2 := by rw [← q6, ← d11]; exact hu2
    conv => whnf
    refine br_nf ((tl_bit hc (by omega) ef hf hu2).mpr y2) ?_
    conv => whnf
    exact qq_wk S key ⟨rfl, rfl, rfl, rfl, rfl, rfl, rfl, rfl, rfl, rfl, rfl, trivial⟩
  | succ r ih =>
    intro i hi x8 e8
    have d9 := r_div169 e8 (by omega)
    have d13 := r_div e8 (by omega)
    have d10 := r_rem d13 (by omega)
    have d11 := r_rem e8 (by omega)
    have hnx : ¬ ((bF (mBD w N) c 1 (i / 169) (i / 13 % 13) ∧ bF (mBD w N) c 2 (i % 13) fn) ∧ bL (mBD w N) c dn (i / 169) + bL (mBD w N) (l + 1) (i / 13 % 13) (i % 13) + 2 = V + 1) := by
      rintro ⟨⟨z1, z2⟩, z3⟩
      refine hx.2 i (by omega) ?_
      unfold bPT
      rw [ePa, eCa, eLe, hV]
      exact ⟨z1, z2, z3⟩
    have key : ∀ b : Int32, ((b = 1 ∧ (bF (mBD w N) c 1 (i / 169) (i / 13 % 13) ∧ bF (mBD w N) c 2 (i % 13) fn)) ∨ (b = 0 ∧ ¬ (bF (mBD w N) c 1 (i / 169) (i / 13 % 13) ∧ bF (mBD w N) c 2 (i % 13) fn))) → K 168 [(0, .ref 8), (1, .int d), (2, .int a), (3, .int f), (4, .long v), (6, .int x6), (7, .int x7), (8, .int x8), (9, .int (x8 / 169)), (10, .int (x8 / 13 - x8 / 13 / 13 * 13)), (11, .int (x8 - x8 / 13 * 13))] [.int b] w := fun b hb =>
      tr_168 S hT ed hd ev (by omega) hc e6 hl e7 d9 d10 d11 (by omega) (by omega) (by omega) hb (fun z => absurd z hnx) (fun _ => ih (i + 1) (by omega) _ (i_s e8))
    refine qq_go_ok S (fun pc => Nat.beq pc 95 || Nat.beq pc 168) 80 ?_
    conv => whnf
    refine br_f (i_nge 2197 e8 (by omega) (by omega)) ?_
    conv => whnf
    refine ⟨by decide, ?_⟩
    conv => whnf
    refine ⟨by decide, ?_⟩
    conv => whnf
    refine ⟨by decide, ?_⟩
    conv => whnf
    refine ⟨by decide, ?_⟩
    conv => whnf
    refine ⟨⟨i_in 64 e6 (by omega) (by decide), i_in 3 (k := 1) rfl (by omega) (by decide), i_in 13 d9 (by omega) (by decide), by rw [q6]; exact hP.2.2.2.2.1 c hc⟩, fun u hu => ?_⟩
    have hu : mTgt w c 1 (nI (i / 169)) u := by rw [← q6, ← d9]; exact hu
    conv => whnf
    refine ⟨fun z => ?_, fun z => ?_⟩
    · conv => whnf
      exact qq_wk S (key 0 (Or.inr ⟨rfl, fun y => z ((tl_bit hc (by omega) d10 (by omega) hu).mpr y.1)⟩)) ⟨rfl, rfl, rfl, rfl, rfl, rfl, rfl, rfl, rfl, rfl, rfl, trivial⟩
    · have z := (tl_bit hc (by omega) d10 (by omega) hu).mp z
      conv => whnf
      refine ⟨⟨i_in 64 e6 (by omega) (by decide), i_in 3 (k := 2) rfl (by omega) (by decide), i_in 13 d11 (by omega) (by decide), by rw [q6]; exact hP.2.2.2.2.1 c hc⟩, fun u2 hu2 => ?_⟩
      have hu2 : mTgt w c 2 (nI (i % 13)) u2 := by rw [← q6, ← d11]; exact hu2
      conv => whnf
      refine ⟨fun z2 => ?_, fun z2 => ?_⟩
      · conv => whnf
        exact qq_wk S (key 0 (Or.inr ⟨rfl, fun y => z2 ((tl_bit hc (by omega) ef hf hu2).mpr y.2)⟩)) ⟨rfl, rfl, rfl, rfl, rfl, rfl, rfl, rfl, rfl, rfl, rfl, trivial⟩
      · conv => whnf
        exact qq_wk S (key 1 (Or.inl ⟨rfl, z, (tl_bit hc (by omega) ef hf hu2).mp z2⟩)) ⟨rfl, rfl, rfl, rfl, rfl, rfl, rfl, rfl, rfl, rfl, rfl, trivial⟩
theorem tr_11 {k : Nat} {P : Option Value → qq_w → Prop} {K : Nat → qq_L → List Value → qq_w → Prop} (S : qq_Sat ww_sh ww_ro (cs_X8_toReturn k) (qq_at 292 kd_X8_toReturn) none P K) {w : qq_w} {a d f x6 : Int32} {v : Int64} {n dn fn V N t c g0 : Nat} (eN : qn (w.1 8 8) = N) (hT : mTrk w N) (ea : a = nI n) (hn : n < N) (ed : d = nI dn) (hd : dn < 13) (ef : f = nI fn) (hf : fn < 13) (ev : v = lN V) (hV : bL (mBD w N) n dn fn = V + 1) (hVk : V < k) (hk : k < 300) (et : w.1 8 44 = nI t) (ht : t + V + 1 ≤ 300)
    (h10 : bK (mBD w N) n = 10) (ePa : bPa (mBD w N) n = c) (hc : c < N) (e6 : x6 = nI c) (hx : lst (bPA (mBD w N) n dn fn) g0)
    (hq : ∀ l : List (Nat × Nat × Nat), l.length = bL (mBD w N) n dn fn → (∀ st, bRun (mBD w N) l.reverse (n, fn, dn, st) (bEn (mBD w N) (bOw (mBD w N) n), dn, dn, st)) → P none (wApp w l)) :
    ∀ r i, i + r = g0 → ∀ x7 : Int32, x7 = nI i → K 11 [(0, .ref 8), (1, .int d), (2, .int a), (3, .int f), (4, .long v), (6, .int x6), (7, .int x7)] [] w := by
  have hP := hT.1
  have hN := hP.2.1
  have q6 : qn x6 = c := by rw [e6]; exact qn_nI (by omega)
  have hx' := hx
  obtain ⟨hx1, hx2⟩ := hx
  unfold bPA at hx1 hx2
  rw [ePa] at hx1 hx2
  obtain ⟨y2, y3⟩ := hx1
  have hg0 : g0 < 13 := y3.2.1
  intro r
  induction r with
  | zero =>
    intro i hi x7 e7
    have : i = g0 := by omega
    subst this
    obtain ⟨A, eA, hA, hA2⟩ := mD_L hT.2.2.1 hN hc hd hg0
    have hA3 : A = V := by
      rw [hA2, hV] at y2
      split at y2 <;> omega
    subst hA3
    have e := nI_at e6 ed e7
    have ce := i_c e (by omega)
    have cv : w.2 59 ((169 : Int32) * x6 + 13 * d + x7).toNatClampNeg = v := by rw [ce, eA, ev]
    have qd : qn d = dn := by rw [ed]; exact qn_nI (by omega)
    have q7 : qn x7 = i := by rw [e7]; exact qn_nI (by omega)
    refine qq_go_ok S (fun pc => Nat.beq pc 11) 80 ?_
    conv => whnf
    refine br_f (i_nge 13 e7 (by omega) (by omega)) ?_
    conv => whnf
    refine ⟨i_in 10816 e (by omega) (by decide), ?_⟩
    conv => whnf
    refine br_nf (lcmp0.mpr cv) ?_
    conv => whnf
    refine ⟨⟨i_in 64 e6 (by omega) (by decide), i_in 3 (k := 0) rfl (by omega) (by decide), i_in 13 e7 (by omega) (by decide), by rw [q6]; exact hP.2.2.2.2.1 c hc⟩, fun x hx => ?_⟩
    have hx : mTgt w c 0 (nI i) x := by rw [← q6, ← e7]; exact hx
    conv => whnf
    refine br_nf ((tl_bit hc hg0 ef hf hx).mpr y3) ?_
    conv => whnf
    refine ⟨⟨by rw [eN]; exact hT, i_in 13 ed hd (by decide), i_in 13 e7 (by omega) (by decide), i_in 64 e6 (by omega) (by decide), by rw [eN, q6]; exact hc, ?_, by omega, t, et, ?_⟩, fun l hl hr => ?_⟩
    · show bL (mBD w (qn (w.1 8 8))) (qn x6) (qn d) (qn x7) < k
      rw [eN, q6, qd, q7]; omega
    · show t + bL (mBD w (qn (w.1 8 8))) (qn x6) (qn d) (qn x7) ≤ 300
      rw [eN, q6, qd, q7]; omega
    have hl : l.length = bL (mBD w (qn (w.1 8 8))) (qn x6) (qn d) (qn x7) := hl
    have hr : ∀ st, bRun (mBD w (qn (w.1 8 8))) l.reverse (qn x6, qn x7, qn d, st) (bEn (mBD w (qn (w.1 8 8))) (bOw (mBD w (qn (w.1 8 8))) (qn x6)), qn d, qn d, st) := hr
    rw [eN, q6, qd, q7] at hl hr
    conv => whnf
    have e44 := wApp_44 l w t et
    refine ⟨i_in 300 e44 (by omega) (by decide), ?_⟩
    conv => whnf
    have key := hq (l ++ [(n, fn, 2)]) (by simp only [List.length_append, List.length_cons, List.length_nil]; omega) (fun st => ?_)
    · rw [wApp_app] at key
      rw [ea, ef]
      exact key
    · rw [List.reverse_append]
      have hb5 := (hT.2.2.2.2.2.1.2.2.2.2.1 n hn h10).2.1
      rw [ePa] at hb5
      have hr := hr st
      rw [hb5] at hr
      exact ⟨(c, i, dn, st), ⟨rfl, rfl, Or.inr (Or.inr (Or.inr (Or.inl ⟨h10, rfl, hx', ePa.symm, rfl, rfl⟩)))⟩, hr⟩
  | succ r ih =>
    intro i hi x7 e7
    obtain ⟨A, eA, hA, hA2⟩ := mD_L hT.2.2.1 hN hc hd (show i < 13 by omega)
    have e := nI_at e6 ed e7
    have ce := i_c e (by omega)
    have cv : w.2 59 ((169 : Int32) * x6 + 13 * d + x7).toNatClampNeg = v ↔ A = V := by rw [ce, eA, ev]; exact lL_eq (by omega) (by omega)
    have hno : ¬ (A = V ∧ bF (mBD w N) c 0 i fn) := by
      rintro ⟨z1, z2⟩
      refine hx2 i (by omega) ⟨?_, z2⟩
      rw [hA2, hV, if_pos (by omega), z1]
    refine qq_go_ok S (fun pc => Nat.beq pc 11) 80 ?_
    conv => whnf
    refine br_f (i_nge 13 e7 (by omega) (by omega)) ?_
    conv => whnf
    refine ⟨i_in 10816 e (by omega) (by decide), ?_⟩
    conv => whnf
    refine ⟨fun z => ?_, fun z => ?_⟩
    · conv => whnf
      exact qq_wk S (ih (i + 1) (by omega) _ (i_s e7)) ⟨rfl, rfl, rfl, rfl, rfl, rfl, rfl, trivial⟩
    · have z := cv.mp (lcmp0.mp z)
      conv => whnf
      refine ⟨⟨i_in 64 e6 (by omega) (by decide), i_in 3 (k := 0) rfl (by omega) (by decide), i_in 13 e7 (by omega) (by decide), by rw [q6]; exact hP.2.2.2.2.1 c hc⟩, fun x hx => ?_⟩
      have hx : mTgt w c 0 (nI i) x := by rw [← q6, ← e7]; exact hx
      conv => whnf
      refine br_nt (fun y => hno ⟨z, (tl_bit hc (by omega) ef hf hx).mp y⟩) ?_
      conv => whnf
      exact qq_wk S (ih (i + 1) (by omega) _ (i_s e7)) ⟨rfl, rfl, rfl, rfl, rfl, rfl, rfl, trivial⟩
theorem tr_11' {k : Nat} {P : Option Value → qq_w → Prop} {K : Nat → qq_L → List Value → qq_w → Prop} (S : qq_Sat ww_sh ww_ro (cs_X8_toReturn k) (qq_at 292 kd_X8_toReturn) none P K) {w : qq_w} {a d f x6 : Int32} {v : Int64} {n dn fn V N c : Nat} (hT : mTrk w N) (ed : d = nI dn) (hd : dn < 13) (ef : f = nI fn) (hf : fn < 13) (ev : v = lN V) (hV : bL (mBD w N) n dn fn = V + 1) (hV2 : V < 300)
    (ePa : bPa (mBD w N) n = c) (hc : c < N) (e6 : x6 = nI c) (hx : ∀ g, ¬ bPA (mBD w N) n dn fn g)
    (hk : K 78 [(0, .ref 8), (1, .int d), (2, .int a), (3, .int f), (4, .long v), (6, .int x6)] [] w) :
    ∀ r i, i + r = 13 → ∀ x7 : Int32, x7 = nI i → K 11 [(0, .ref 8), (1, .int d), (2, .int a), (3, .int f), (4, .long v), (6, .int x6), (7, .int x7)] [] w := by
  have hP := hT.1
  have hN := hP.2.1
  have q6 : qn x6 = c := by rw [e6]; exact qn_nI (by omega)
  unfold bPA at hx
  rw [ePa] at hx
  intro r
  induction r with
  | zero =>
    intro i hi x7 e7
    refine qq_go_ok S (fun pc => Nat.beq pc 11 || Nat.beq pc 78) 80 ?_
    conv => whnf
    refine br_t (i_ge 13 e7 (by omega) (by omega)) ?_
    conv => whnf
    exact qq_wk S hk ⟨rfl, rfl, rfl, rfl, rfl, rfl, trivial⟩
  | succ r ih =>
    intro i hi x7 e7
    obtain ⟨A, eA, hA, hA2⟩ := mD_L hT.2.2.1 hN hc hd (show i < 13 by omega)
    have e := nI_at e6 ed e7
    have ce := i_c e (by omega)
    have cv : w.2 59 ((169 : Int32) * x6 + 13 * d + x7).toNatClampNeg = v ↔ A = V := by rw [ce, eA, ev]; exact lL_eq (by omega) (by omega)
    have hno : ¬ (A = V ∧ bF (mBD w N) c 0 i fn) := by
      rintro ⟨z1, z2⟩
      refine hx i ⟨?_, z2⟩
      rw [hA2, hV, if_pos (by omega), z1]
    refine qq_go_ok S (fun pc => Nat.beq pc 11 || Nat.beq pc 78) 80 ?_
    conv => whnf
    refine br_f (i_nge 13 e7 (by omega) (by omega)) ?_
    conv => whnf
    refine ⟨i_in 10816 e (by omega) (by decide), ?_⟩
    conv => whnf
    refine ⟨fun z => ?_, fun z => ?_⟩
    · conv => whnf
      exact qq_wk S (ih (i + 1) (by omega) _ (i_s e7)) ⟨rfl, rfl, rfl, rfl, rfl, rfl, rfl, trivial⟩
    · have z := cv.mp (lcmp0.mp z)
      conv => whnf
      refine ⟨⟨i_in 64 e6 (by omega) (by decide), i_in 3 (k := 0) rfl (by omega) (by decide), i_in 13 e7 (by omega) (by decide), by rw [q6]; exact hP.2.2.2.2.1 c hc⟩, fun x hx => ?_⟩
      have hx : mTgt w c 0 (nI i) x := by rw [← q6, ← e7]; exact hx
      conv => whnf
      refine br_nt (fun y => hno ⟨z, (tl_bit hc (by omega) ef hf hx).mp y⟩) ?_
      conv => whnf
      exact qq_wk S (ih (i + 1) (by omega) _ (i_s e7)) ⟨rfl, rfl, rfl, rfl, rfl, rfl, rfl, trivial⟩
set_option maxHeartbeats 4000000 in
set_option maxRecDepth 100000 in
theorem bd_X8_toReturn (k : Nat) : ∀ As w P K, qq_Sat ww_sh ww_ro (cs_X8_toReturn k) (qq_at 292 kd_X8_toReturn) none P K → TT_X8_toReturn (k) As w P → K 0 (lv_args 0 As) [] w := by
  intro As w P K S h
  unfold TT_X8_toReturn at h
  split at h
  · rename_i d n f v
    obtain ⟨⟨hT, hp, hp2, hp3, hn, hk10, ⟨V, ev, hV, hVk⟩, hk, t, et, ht⟩, hq⟩ := h
    obtain ⟨ed, hd⟩ := qn_eq hp (by decide)
    obtain ⟨ef, hf⟩ := qn_eq hp2 (by decide)
    obtain ⟨ea, ha⟩ := qn_eq hp3 (by decide)
    have hN := hT.1.2.1
    have hb := hT.2.2.2.2.2.1
    have hV : bL (mBD w (qn (w.1 8 8))) (qn n) (qn d) (qn f) = V + 1 := hV
    have ht : t + bL (mBD w (qn (w.1 8 8))) (qn n) (qn d) (qn f) ≤ 300 := ht
    have h10 : bK (mBD w (qn (w.1 8 8))) (qn n) = 10 := by rw [mD_K hn]; exact hk10
    obtain ⟨c, hc, e49, k9⟩ := hT.2.2.2.2.1 (qn n) hn hk10
    have ePa : bPa (mBD w (qn (w.1 8 8))) (qn n) = c := by
      show (if qn n < qn (w.1 8 8) ∧ w.1 43 (qn n) = 10 then qn (w.1 49 (qn n)) else 0) = c
      rw [if_pos ⟨hn, hk10⟩, e49]
      exact qn_nI (by omega)
    have o49 : w.1 49 n.toNatClampNeg = nI c := e49
    refine qq_go_ok S (fun pc => Nat.beq pc 11) 80 ?_
    conv => whnf
    refine ⟨hp3, ?_⟩
    conv => whnf
    by_cases hA : ∃ g, bPA (mBD w (qn (w.1 8 8))) (qn n) (qn d) (qn f) g
    · obtain ⟨g, hg⟩ := hA
      obtain ⟨g0, hg0, -⟩ := lst_ex hg
      refine qq_wk S (tr_11 S (N := qn (w.1 8 8)) (c := c) (V := V) (t := t) (x6 := w.1 49 n.toNatClampNeg) rfl hT ea hn ed hd ef hf ev hV hVk hk et (by omega) h10 ePa hc o49 hg0 hq g0 0 (Nat.zero_add _) _ rfl) ⟨rfl, rfl, rfl, rfl, rfl, rfl, rfl, trivial⟩
    · have hno : ∀ g, ¬ bPA (mBD w (qn (w.1 8 8))) (qn n) (qn d) (qn f) g := fun g hg => hA ⟨g, hg⟩
      refine qq_wk S (tr_11' S (N := qn (w.1 8 8)) (n := qn n) (c := c) (V := V) (x6 := w.1 49 n.toNatClampNeg) hT ed hd ef hf ev hV (by omega) ePa hc o49 hno ?_ 13 0 rfl _ rfl) ⟨rfl, rfl, rfl, rfl, rfl, rfl, rfl, trivial⟩
      obtain ⟨x0, hx0⟩ : ∃ x, bPT (mBD w (qn (w.1 8 8))) (qn n) (qn d) (qn f) x := by
        rcases hb.2.2.1 (qn n) (qn d) (qn f) hn hd hf h10 (by rw [hV]; omega) (by rw [hV]; omega) with ⟨g, z⟩ | z
        · exact absurd z (hno g)
        · exact z
      obtain ⟨x, hx, -⟩ := lst_ex hx0
      have hx13 : x / 169 < 13 := hx.1.1.2.1
      obtain ⟨p, r, l, q1, q2, q3, q4, q5, q6, q7, q8, q9, q10⟩ := hT.1.2.2.1 c hc k9
      have hpM : p < qn (w.1 8 2) := by
        have := hT.2.2.2.2.2.2.2.2.2 c hc k9
        rw [q4, qn_nI (by omega)] at this
        exact this
      have eCa : bCa (mBD w (qn (w.1 8 8))) c = p := by
        show (if c < qn (w.1 8 8) ∧ w.1 43 c = 9 then qn (w.1 47 c) else 0) = p
        rw [if_pos ⟨hc, k9⟩, q4]
        exact qn_nI (by omega)
      have eLe : bLe (mBD w (qn (w.1 8 8))) p = l + 1 := by
        show (if p < qn (w.1 8 2) then qn (w.1 40 p) else 0) = l + 1
        rw [if_pos hpM, q7]
        exact qn_nI (by omega)
      have eEn : bEn (mBD w (qn (w.1 8 8))) p = l := by
        show (if p < qn (w.1 8 2) then qn (w.1 39 p) else 0) = l
        rw [if_pos hpM, q6]
        exact qn_nI (by omega)
      have c47 : w.1 47 (w.1 49 n.toNatClampNeg).toNatClampNeg = nI p := by rw [i_c o49 (by omega)]; exact q4
      have c40 : w.1 40 (w.1 47 (w.1 49 n.toNatClampNeg).toNatClampNeg).toNatClampNeg = nI (l + 1) := by rw [i_c c47 (by omega)]; exact q7
      refine qq_go_ok S (fun pc => Nat.beq pc 95) 80 ?_
      conv => whnf
      refine ⟨i_in 64 o49 (by omega) (by decide), ?_⟩
      conv => whnf
      refine ⟨i_in 8 c47 (by omega) (by decide), ?_⟩
      conv => whnf
      exact qq_wk S (tr_95 S (N := qn (w.1 8 8)) (c := c) (V := V) (t := t) (p := p) (l := l) (x := x) (x6 := w.1 49 n.toNatClampNeg) (x7 := w.1 40 (w.1 47 (w.1 49 n.toNatClampNeg).toNatClampNeg).toNatClampNeg) rfl hT ea hn ed hd ef hf ev hV hVk hk et (by omega) h10 ePa hc k9 o49 q4 q1 q3 q6 c40 eCa eLe eEn hno hx (by omega) hq x 0 (Nat.zero_add _) _ rfl) ⟨rfl, rfl, rfl, rfl, rfl, rfl, rfl, rfl, trivial⟩
  · exact h.elim
theorem ha_X8_toReturn (k : Nat) : ∀ As w P, TT_X8_toReturn k As w P → qq_wd As ≤ 17 := by
  intro As w P h
  unfold TT_X8_toReturn at h
  split at h
  · exact Nat.le_of_ble_eq_true rfl
  · exact h.elim
set_option maxRecDepth 100000 in
theorem MM_X8_toReturn (l : Launch) (k : Nat) (h_X8_toLevel : qq_M l ww_T ww_N vwCl ww_sh ww_ro ww_zs yX8_toLevel cX8_toLevel 8 none (ww_rm (2*k+5)) (TT_X8_toLevel (k))) : qq_M l ww_T ww_N vwCl ww_sh ww_ro ww_zs yX8_toReturn cX8_toReturn 17 none (ww_rm (2*k+6)) (TT_X8_toReturn (k)) := by
  refine qq_mk (host := RX7) (is := ki_X8_toReturn) (cs := cs_X8_toReturn k) (by decide) ww_k1 wl_X8 ww_so ww_so2 kc_X8_toReturn kv_X8_toReturn kg_X8_toReturn ?_ (ha_X8_toReturn _) (bd_X8_toReturn k)
  intro k i q hi hq
  match k, hi, hq with
  | 0, hi, hq => cases hi; cases hq; exact fun p e s m args below meth c D tys tC ad Q pc X hdg => qq_cV (ci := 8) X ww_gd (M_X8_at l) kf_X8_at.1 (Or.inl (ww_a6 (i := 61) (w := Cond.methodLink RX8 251 yX8_at) rfl rfl)) kf_X8_at.2.1 kf_X8_at.2.2.1 kf_X8_at.2.2.2 ⟨by decide, by decide, by decide +kernel⟩ rfl rfl rfl ⟨by simp only [ww_rm]; omega, by simp only [ww_rm]; omega⟩ ⟨Nat.le_refl _, Nat.le_refl _⟩ hv_X8_at hdg
  | 1, hi, hq => cases hi; cases hq; exact fun p e s m args below meth c D tys tC ad Q pc X hdg => qq_cV (ci := 8) X ww_gd (M_X8_flows l) kf_X8_flows.1 (Or.inl (ww_a5 (i := 187) (w := Cond.methodLink RX8 184 yX8_flows) rfl rfl)) kf_X8_flows.2.1 kf_X8_flows.2.2.1 kf_X8_flows.2.2.2 ⟨by decide, by decide, by decide +kernel⟩ rfl rfl rfl ⟨by simp only [ww_rm]; omega, by simp only [ww_rm]; omega⟩ ⟨Nat.le_refl _, Nat.le_refl _⟩ hv_X8_flows hdg
  | 2, hi, hq => cases hi; cases hq; exact fun p e s m args below meth c D tys tC ad Q pc X hdg => qq_cS X ww_gd h_X8_toLevel kf_X8_toLevel.1 (Or.inl (ww_a6 (i := 102) (w := Cond.methodLink RX8 303 yX8_toLevel) rfl rfl)) kf_X8_toLevel.2.1 kf_X8_toLevel.2.2 ⟨by decide, by decide, by show _ = some 4; decide +kernel⟩ rfl rfl ⟨by simp only [ww_rm]; omega, by simp only [ww_rm]; omega⟩ ⟨Nat.le_refl _, Nat.le_refl _⟩ hdg
  | 3, hi, hq => cases hi; cases hq; exact fun p e s m args below meth c D tys tC ad Q pc X hdg => qq_cV (ci := 8) X ww_gd (M2_X8_comes l) kf_X8_comes.1 (Or.inl (ww_a6 (i := 98) (w := Cond.methodLink RX8 293 yX8_comes) rfl rfl)) kf_X8_comes.2.1 kf_X8_comes.2.2.1 kf_X8_comes.2.2.2 ⟨by decide, by decide, by decide +kernel⟩ rfl rfl rfl ⟨by simp only [ww_rm]; omega, by simp only [ww_rm]; omega⟩ ⟨Nat.le_refl _, Nat.le_refl _⟩ hv2_X8_comes hdg
  | n + 4, hi, hq => simp [cs_X8_toReturn] at hq
