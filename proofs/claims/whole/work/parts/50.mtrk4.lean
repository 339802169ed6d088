abbrev cs_X8_toEnter (k : Nat) : List (Nat × qq_t) := [(1, T_X8_beginning), (4, T2_X8_comes), (3, T_X8_holdsAt), (4, T_X8_flows), (3, TT_X8_toState (k))]
theorem te_150 {k : Nat} {P : Option Value → qq_w → Prop} {K : Nat → qq_L → List Value → qq_w → Prop} (S : qq_Sat ww_sh ww_ro (cs_X8_toEnter k) (qq_at 179 kd_X8_toEnter) none P K) {w : qq_w} {p d x3 x6 x7 : Int32} {n dn V N t c f : Nat} (eN : qn (w.1 8 8) = N) (hT : mTrk w N) (ed : d = nI dn) (hd : dn < 13) (e3 : x3 = nI n) (hn : n < N) (hV : bW (mBD w N) n dn = V + 1) (hVk : V < k) (hk : k < 300) (et : w.1 8 44 = nI t) (ht : t + V + 2 ≤ 300)
    (h0 : bK (mBD w N) n = 0) (hnb : ¬ (bOw (mBD w N) n = 0 ∧ bBg (mBD w N) dn)) (e6 : x6 = nI c) (e7 : x7 = nI f) (hf : f < 13) (hx : lst (bPC (mBD w N) n dn) (13 * c + f))
    (hq : ∀ l : List (Nat × Nat × Nat), l.length = bW (mBD w N) n dn + 1 → (∀ d0, ∃ s', bRun (mBD w N) l.reverse (n, dn, d0, []) s') → P none (wApp w l)) :
    K 150 [(0, .ref 8), (1, .int p), (2, .int d), (3, .int x3), (6, .int x6), (7, .int x7)] [] w := by
  have hP := hT.1
  have hN := hP.2.1
  have hb := hT.2.2.2.2.2.1
  have hx' := hx
  obtain ⟨hx1, -⟩ := hx
  unfold bPC at hx1
  rw [show (13 * c + f) / 13 = c by omega, show (13 * c + f) % 13 = f by omega, hV] at hx1
  obtain ⟨y1, y2, y3, y4⟩ := hx1
  have hc : c < N := y4.1
  have q6 : qn x6 = c := by rw [e6]; exact qn_nI (by omega)
  have q7 : qn x7 = f := by rw [e7]; exact qn_nI (by omega)
  refine qq_go_ok S (fun _ => false) 80 ?_
  conv => whnf
  refine ⟨⟨by rw [eN]; exact hT, i_in 13 e7 hf (by decide), i_in 64 e6 (by omega) (by decide), by rw [eN, q6]; exact hc, ?_, by omega, t, et, ?_⟩, fun l hl hr => ?_⟩
  · show bW (mBD w (qn (w.1 8 8))) (qn x6) (qn x7) < k
    rw [eN, q6, q7]; omega
  · show t + bW (mBD w (qn (w.1 8 8))) (qn x6) (qn x7) + 1 ≤ 300
    rw [eN, q6, q7]; omega
  have hl : l.length = bW (mBD w (qn (w.1 8 8))) (qn x6) (qn x7) + 1 := hl
  have hr : ∀ d0, bOut (mBD w (qn (w.1 8 8))) (qn x6) (qn x7) d0 → ∃ s', bRun (mBD w (qn (w.1 8 8))) l.reverse (qn x6, qn x7, d0, []) s' := hr
  rw [eN, q6, q7] at hl hr
  conv => whnf
  have e44 := wApp_44 l w t et
  refine ⟨i_in 300 e44 (by omega) (by decide), ?_⟩
  conv => whnf
  have key := hq (l ++ [(n, dn, 3)]) (by simp only [List.length_append, List.length_cons, List.length_nil]; omega) (fun d0 => ?_)
  · rw [wApp_app] at key
    rw [e3, ed]
    exact key
  · rw [List.reverse_append]
    obtain ⟨d1, hd1, hd2⟩ := hb.2.2.2.2.2.2.2.2.1 c f hc hf (by omega)
    obtain ⟨d2, hd3, hd4⟩ := lst_ex (P := fun d => bW (mBD w N) (bEn (mBD w N) (bOw (mBD w N) c)) d + bL (mBD w N) c d f = bW (mBD w N) c f) hd2
    have ho : bOut (mBD w N) c f d2 := ⟨by omega, hd3⟩
    obtain ⟨s', hs'⟩ := hr d2 ho
    exact ⟨s', (c, f, d2, []), ⟨rfl, rfl, Or.inr (Or.inr (Or.inl ⟨h0, rfl, hnb, rfl, hf, hx', ho, rfl⟩))⟩, hs'⟩
theorem te_126 {k : Nat} {P : Option Value → qq_w → Prop} {K : Nat → qq_L → List Value → qq_w → Prop} (S : qq_Sat ww_sh ww_ro (cs_X8_toEnter k) (qq_at 179 kd_X8_toEnter) none P K) {w : qq_w} {p d x3 x6 x7 b : Int32} {v : Int64} {dn N c f : Nat} (hT : mTrk w N) (ed : d = nI dn) (hd : dn < 13) (hc : c < N) (e6 : x6 = nI c) (e7 : x7 = nI f) (hf : f < 13) {R : Prop} (hR : (b = 1 ∧ R) ∨ (b = 0 ∧ ¬ R))
    (hy : R ∧ bF (mBD w N) c 1 f dn → K 150 [(0, .ref 8), (1, .int p), (2, .int d), (3, .int x3), (6, .int x6), (7, .int x7)] [] w)
    (hn : ¬ (R ∧ bF (mBD w N) c 1 f dn) → K 61 [(0, .ref 8), (1, .int p), (2, .int d), (3, .int x3), (4, .long v), (6, .int x6), (7, .int (x7 + 1))] [] w) :
    K 126 [(0, .ref 8), (1, .int p), (2, .int d), (3, .int x3), (4, .long v), (6, .int x6), (7, .int x7)] [.int b] w := by
  have hP := hT.1
  have hN := hP.2.1
  have q6 : qn x6 = c := by rw [e6]; exact qn_nI (by omega)
  refine qq_go_ok S (fun pc => Nat.beq pc 61 || Nat.beq pc 150) 80 ?_
  conv => whnf
  refine ⟨fun z => ?_, fun z => ?_⟩
  · have hR : ¬ R := by
      rcases hR with ⟨r1, -⟩ | ⟨-, r2⟩
      · exact absurd (r1.symm.trans z) (by decide)
      · exact r2
    conv => whnf
    exact qq_wk S (hn fun y => hR y.1) ⟨rfl, rfl, rfl, rfl, rfl, rfl, rfl, trivial⟩
  · have hR : R := by
      rcases hR with ⟨-, r1⟩ | ⟨r1, -⟩
      · exact r1
      · exact absurd r1 z
    conv => whnf
    refine ⟨⟨i_in 64 e6 (by omega) (by decide), i_in 3 (k := 1) rfl (by omega) (by decide), i_in 13 e7 hf (by decide), by rw [q6]; exact hP.2.2.2.2.1 c hc⟩, fun x hx => ?_⟩
    have hx : mTgt w c 1 (nI f) x := by rw [← q6, ← e7]; exact hx
    conv => whnf
    refine ⟨fun z => ?_, fun z => ?_⟩
    · conv => whnf
      exact qq_wk S (hn fun y => z ((tl_bit hc hf ed hd hx).mpr y.2)) ⟨rfl, rfl, rfl, rfl, rfl, rfl, rfl, trivial⟩
    · conv => whnf
      exact qq_wk S (hy ⟨hR, (tl_bit hc hf ed hd hx).mp z⟩) ⟨rfl, rfl, rfl, rfl, rfl, rfl, trivial⟩
/-- one call, one fact -/
theorem te_61 {k : Nat} {P : Option Value → qq_w → Prop} {K : Nat → qq_L → List Value → qq_w → Prop} (S : qq_Sat ww_sh ww_ro (cs_X8_toEnter k) (qq_at 179 kd_X8_toEnter) none P K) {w : qq_w} {p d x3 x6 x7 : Int32} {v : Int64} {n pn dn V N c f : Nat} (hT : mTrk w N) (hpn : pn < 8) (ep : p = nI pn) (ed : d = nI dn) (hd : dn < 13) (ev : v = lN V) (hV : bW (mBD w N) n dn = V + 1) (hV2 : V < 300) (eOw : bOw (mBD w N) n = pn) (hc : c < N) (e6 : x6 = nI c) (e7 : x7 = nI f) (hf : f < 13)
    (hy : bPC (mBD w N) n dn (13 * c + f) → K 150 [(0, .ref 8), (1, .int p), (2, .int d), (3, .int x3), (6, .int x6), (7, .int x7)] [] w)
    (hn : ¬ bPC (mBD w N) n dn (13 * c + f) → K 61 [(0, .ref 8), (1, .int p), (2, .int d), (3, .int x3), (4, .long v), (6, .int x6), (7, .int (x7 + 1))] [] w) :
    K 61 [(0, .ref 8), (1, .int p), (2, .int d), (3, .int x3), (4, .long v), (6, .int x6), (7, .int x7)] [] w := by
  have hP := hT.1
  have hN := hP.2.1
  have q6 : qn x6 = c := by rw [e6]; exact qn_nI (by omega)
  have q7 : qn x7 = f := by rw [e7]; exact qn_nI (by omega)
  obtain ⟨A, eA, hA, hA2⟩ := mD_W hT.2.2.2.1 hN hc hf
  have i1 : (13 : Int32) * x6 + x7 = nI (13 * c + f) := nI_mr e6 e7 (nI_lit 13)
  have cv : w.2 60 ((13 : Int32) * x6 + x7).toNatClampNeg = v ↔ A = V := by rw [i_c i1 (by omega), eA, ev]; exact lL_eq (by omega) (by omega)
  have k6 : w.1 43 x6.toNatClampNeg = w.1 43 c := by rw [i_c e6 (by omega)]
  have p6 : w.1 47 x6.toNatClampNeg = w.1 47 c := by rw [i_c e6 (by omega)]
  have hiff : ((w.1 43 c = 9 ∧ w.1 47 c = p ∧ mHolds w c f ∧ A = V) ∧ bF (mBD w N) c 1 f dn) ↔ bPC (mBD w N) n dn (13 * c + f) := by
    unfold bPC
    rw [show (13 * c + f) / 13 = c by omega, show (13 * c + f) % 13 = f by omega, eOw, hV, mD_K hc, hA2]
    constructor
    · rintro ⟨⟨z1, z2, -, z4⟩, z5⟩
      refine ⟨z1, ?_, ?_, z5⟩
      · show (if c < N ∧ w.1 43 c = 9 then qn (w.1 47 c) else 0) = pn
        rw [if_pos ⟨hc, z1⟩, z2, ep]
        exact qn_nI (by omega)
      · rw [if_pos (by omega), z4]
    · rintro ⟨z1, z2, z3, z5⟩
      have hAV : A = V := by
        split at z3 <;> omega
      refine ⟨⟨z1, ?_, ?_, hAV⟩, z5⟩
      · obtain ⟨p', r, l, q1, q2, q3, q4, -⟩ := hP.2.2.1 c hc z1
        have z2 : (if c < N ∧ w.1 43 c = 9 then qn (w.1 47 c) else 0) = pn := z2
        rw [if_pos ⟨hc, z1⟩, q4, qn_nI (by omega)] at z2
        rw [q4, ep, z2]
      · refine hT.2.2.2.2.2.2.1 c f hc hf ?_
        rw [hA2]
        split <;> omega
  have key : ∀ b : Int32, ((b = 1 ∧ (w.1 43 c = 9 ∧ w.1 47 c = p ∧ mHolds w c f ∧ A = V)) ∨ (b = 0 ∧ ¬ (w.1 43 c = 9 ∧ w.1 47 c = p ∧ mHolds w c f ∧ A = V))) → K 126 [(0, .ref 8), (1, .int p), (2, .int d), (3, .int x3), (4, .long v), (6, .int x6), (7, .int x7)] [.int b] w := fun b hb => te_126 S hT ed hd hc e6 e7 hf hb (fun z => hy (hiff.mp z)) (fun z => hn fun y => z (hiff.mpr y))
  refine qq_go_ok S (fun pc => Nat.beq pc 126) 80 ?_
  conv => whnf
  refine br_f (i_nge 13 e7 (by omega) (by omega)) ?_
  conv => whnf
  refine ⟨i_in 64 e6 (by omega) (by decide), ?_⟩
  conv => whnf
  refine ⟨fun z => ?_, fun z => ?_⟩
  · have z : ¬ w.1 43 x6.toNatClampNeg = 9 := z
    rw [k6] at z
    conv => whnf
    exact qq_wk S (key 0 (Or.inr ⟨rfl, fun y => z y.1⟩)) ⟨rfl, rfl, rfl, rfl, rfl, rfl, rfl, trivial⟩
  · have z : w.1 43 x6.toNatClampNeg = 9 := z
    rw [k6] at z
    conv => whnf
    refine ⟨i_in 64 e6 (by omega) (by decide), ?_⟩
    conv => whnf
    refine ⟨fun z2 => ?_, fun z2 => ?_⟩
    · have z2 : ¬ w.1 47 x6.toNatClampNeg = p := z2
      rw [p6] at z2
      conv => whnf
      exact qq_wk S (key 0 (Or.inr ⟨rfl, fun y => z2 y.2.1⟩)) ⟨rfl, rfl, rfl, rfl, rfl, rfl, rfl, trivial⟩
    · have z2 : w.1 47 x6.toNatClampNeg = p := z2
      rw [p6] at z2
      conv => whnf
      refine ⟨⟨i_in 64 e6 (by omega) (by decide), i_in 13 e7 hf (by decide)⟩, fun z3 => ?_, fun z3 => ?_⟩
      · have z3 : mHolds w (qn x6) (qn x7) := z3
        rw [q6, q7] at z3
        conv => whnf
        refine br_f (by decide) ?_
        conv => whnf
        refine ⟨i_in 832 i1 (by omega) (by decide), ?_⟩
        conv => whnf
        refine ⟨fun z4 => ?_, fun z4 => ?_⟩
        · conv => whnf
          exact qq_wk S (key 0 (Or.inr ⟨rfl, fun y => z4 (lcmp0.mpr (cv.mpr y.2.2.2))⟩)) ⟨rfl, rfl, rfl, rfl, rfl, rfl, rfl, trivial⟩
        · have z4 := cv.mp (lcmp0.mp z4)
          conv => whnf
          exact qq_wk S (key 1 (Or.inl ⟨rfl, z, z2, z3, z4⟩)) ⟨rfl, rfl, rfl, rfl, rfl, rfl, rfl, trivial⟩
      · have z3 : ¬ mHolds w (qn x6) (qn x7) := z3
        rw [q6, q7] at z3
        conv => whnf
        refine br_t rfl ?_
        conv => whnf
        exact qq_wk S (key 0 (Or.inr ⟨rfl, fun y => z3 y.2.2.1⟩)) ⟨rfl, rfl, rfl, rfl, rfl, rfl, rfl, trivial⟩
theorem te_49 {k : Nat} {P : Option Value → qq_w → Prop} {K : Nat → qq_L → List Value → qq_w → Prop} (S : qq_Sat ww_sh ww_ro (cs_X8_toEnter k) (qq_at 179 kd_X8_toEnter) none P K) {w : qq_w} {p d x3 : Int32} {v : Int64} {n pn dn V N t m g0 : Nat} (eN : qn (w.1 8 8) = N) (hT : mTrk w N) (hpn : pn < 8) (ep : p = nI pn) (ed : d = nI dn) (hd : dn < 13) (e3 : x3 = nI n) (hn : n < N) (ev : v = lN V) (hV : bW (mBD w N) n dn = V + 1) (hVk : V < k) (hk : k < 300) (et : w.1 8 44 = nI t) (ht : t + V + 2 ≤ 300) (eOw : bOw (mBD w N) n = pn)
    (h0 : bK (mBD w N) n = 0) (hnb : ¬ (bOw (mBD w N) n = 0 ∧ bBg (mBD w N) dn)) (hg0 : g0 < 13) (hm : m < N) (hx : lst (bPC (mBD w N) n dn) (13 * m + g0))
    (hq : ∀ l : List (Nat × Nat × Nat), l.length = bW (mBD w N) n dn + 1 → (∀ d0, ∃ s', bRun (mBD w N) l.reverse (n, dn, d0, []) s') → P none (wApp w l)) :
    ∀ r i, i + r = m → ∀ x6 : Int32, x6 = nI i → K 49 [(0, .ref 8), (1, .int p), (2, .int d), (3, .int x3), (4, .long v), (6, .int x6)] [] w := by
  have hN := hT.1.2.1
  have e8 : w.1 8 8 = nI N := hT.1.1
  intro r
  induction r with
  | zero =>
    intro i hi x6 e6
    have : i = m := by omega
    subst this
    have inner : ∀ r' j, j + r' = g0 → ∀ x7 : Int32, x7 = nI j → K 61 [(0, .ref 8), (1, .int p), (2, .int d), (3, .int x3), (4, .long v), (6, .int x6), (7, .int x7)] [] w := by
      intro r'
      induction r' with
      | zero =>
        intro j hj x7 e7
        have : j = g0 := by omega
        subst this
        exact te_61 S hT hpn ep ed hd ev hV (by omega) eOw hm e6 e7 hg0 (fun _ => te_150 S eN hT ed hd e3 hn hV hVk hk et ht h0 hnb e6 e7 hg0 hx hq) (fun z => absurd hx.1 z)
      | succ r' ih' =>
        intro j hj x7 e7
        exact te_61 S hT hpn ep ed hd ev hV (by omega) eOw hm e6 e7 (by omega) (fun z => absurd z (hx.2 _ (by omega))) (fun _ => ih' (j + 1) (by omega) _ (i_s e7))
    refine qq_go_ok S (fun pc => Nat.beq pc 61) 80 ?_
    conv => whnf
    refine br_f (i_lt' e6 e8 (by omega) (by omega)) ?_
    conv => whnf
    exact qq_wk S (inner g0 0 (Nat.zero_add _) _ rfl) ⟨rfl, rfl, rfl, rfl, rfl, rfl, rfl, trivial⟩
  | succ r ih =>
    intro i hi x6 e6
    have inner : ∀ r' j, j + r' = 13 → ∀ x7 : Int32, x7 = nI j → K 61 [(0, .ref 8), (1, .int p), (2, .int d), (3, .int x3), (4, .long v), (6, .int x6), (7, .int x7)] [] w := by
      intro r'
      induction r' with
      | zero =>
        intro j hj x7 e7
        refine qq_go_ok S (fun pc => Nat.beq pc 61 || Nat.beq pc 49) 80 ?_
        conv => whnf
        refine br_t (i_ge 13 e7 (by omega) (by omega)) ?_
        conv => whnf
        exact qq_wk S (ih (i + 1) (by omega) _ (i_s e6)) ⟨rfl, rfl, rfl, rfl, rfl, rfl, trivial⟩
      | succ r' ih' =>
        intro j hj x7 e7
        exact te_61 S hT hpn ep ed hd ev hV (by omega) eOw (by omega) e6 e7 (by omega) (fun z => absurd z (hx.2 _ (by omega))) (fun _ => ih' (j + 1) (by omega) _ (i_s e7))
    refine qq_go_ok S (fun pc => Nat.beq pc 61) 80 ?_
    conv => whnf
    refine br_f (i_lt' e6 e8 (by omega) (by omega)) ?_
    conv => whnf
    exact qq_wk S (inner 13 0 (Nat.zero_add _) _ rfl) ⟨rfl, rfl, rfl, rfl, rfl, rfl, rfl, trivial⟩
theorem te_31 {k : Nat} {P : Option Value → qq_w → Prop} {K : Nat → qq_L → List Value → qq_w → Prop} (S : qq_Sat ww_sh ww_ro (cs_X8_toEnter k) (qq_at 179 kd_X8_toEnter) none P K) {w : qq_w} {p d x3 : Int32} {n pn dn N t : Nat} (eN : qn (w.1 8 8) = N) (hT : mTrk w N) (hpn : pn < 8) (ep : p = nI pn) (ed : d = nI dn) (hd : dn < 13) (e3 : x3 = nI n) (hn : n < N) (hVk : bW (mBD w N) n dn < k + 1) (hk : k < 300) (et : w.1 8 44 = nI t) (ht : t + bW (mBD w N) n dn + 1 ≤ 300) (eOw : bOw (mBD w N) n = pn)
    (h0 : bK (mBD w N) n = 0) (hnb : ¬ (bOw (mBD w N) n = 0 ∧ bBg (mBD w N) dn))
    (hq : ∀ l : List (Nat × Nat × Nat), l.length = bW (mBD w N) n dn + 1 → (∀ d0, ∃ s', bRun (mBD w N) l.reverse (n, dn, d0, []) s') → P none (wApp w l)) :
    K 31 [(0, .ref 8), (1, .int p), (2, .int d), (3, .int x3)] [] w := by
  have hP := hT.1
  have hN := hP.2.1
  have hb := hT.2.2.2.2.2.1
  obtain ⟨x0, hx0⟩ := hb.2.2.2.2.2.2.2.2.2.1 n dn hn hd h0 (by omega) hnb
  obtain ⟨x, hx, -⟩ := lst_ex hx0
  have hx13 : 13 * (x / 13) + x % 13 = x := by omega
  obtain ⟨A, eA, hA, hA2⟩ := mD_W hT.2.2.2.1 hN hn hd
  have hx3 := hx.1.2.2.1
  obtain ⟨V, hV⟩ : ∃ V, bW (mBD w N) n dn = V + 1 := ⟨_, hx3.symm⟩
  have hA3 : A = V + 1 := by
    have hV' := hV
    rw [hA2] at hV'
    split at hV' <;> omega
  have i1 : (13 : Int32) * x3 + d = nI (13 * n + dn) := nI_mr e3 ed (nI_lit 13)
  have ev : w.2 60 ((13 : Int32) * x3 + d).toNatClampNeg - 1 = lN V := by
    rw [i_c i1 (by omega), eA, hA3]; exact lN_p1 V
  refine qq_go_ok S (fun pc => Nat.beq pc 49) 80 ?_
  conv => whnf
  refine ⟨i_in 832 i1 (by omega) (by decide), ?_⟩
  conv => whnf
  exact qq_wk S (te_49 S (m := x / 13) (g0 := x % 13) eN hT hpn ep ed hd e3 hn ev hV (by omega) hk et (by omega) eOw h0 hnb (by omega) hx.1.2.2.2.1 (by rw [hx13]; exact hx) hq (x / 13) 0 (Nat.zero_add _) _ rfl) ⟨rfl, rfl, rfl, rfl, rfl, rfl, trivial⟩
theorem te_15 {k : Nat} {P : Option Value → qq_w → Prop} {K : Nat → qq_L → List Value → qq_w → Prop} (S : qq_Sat ww_sh ww_ro (cs_X8_toEnter k) (qq_at 179 kd_X8_toEnter) none P K) {w : qq_w} {p d x3 b : Int32} {dn t : Nat} (ed : d = nI dn) (hd : dn < 13) (et : w.1 8 44 = nI t) (ht : t + 1 ≤ 300)
    (h1 : bt b dn = true → P none (wCome w x3 d 0)) (h0 : ¬ bt b dn = true → K 31 [(0, .ref 8), (1, .int p), (2, .int d), (3, .int x3)] [] w) :
    K 15 [(0, .ref 8), (1, .int p), (2, .int d), (3, .int x3)] [.int b] w := by
  have hb : (b >>> (d &&& 31)) &&& 1 = 1 ↔ bt b dn = true := by rw [ed]; exact b_has1 (by omega) _
  refine qq_go_ok S (fun pc => Nat.beq pc 31) 80 ?_
  conv => whnf
  refine ⟨fun h => ?_, fun h => ?_⟩
  · conv => whnf
    exact qq_wk S (h0 fun z => h (hb.mpr z)) ⟨rfl, rfl, rfl, rfl, trivial⟩
  · conv => whnf
    refine ⟨i_in 300 et (by omega) (by decide), ?_⟩
    conv => whnf
    exact h1 (hb.mp h)
set_option maxHeartbeats 4000000 in
set_option maxRecDepth 100000 in
theorem bd_X8_toEnter (k : Nat) : ∀ As w P K, qq_Sat ww_sh ww_ro (cs_X8_toEnter k) (qq_at 179 kd_X8_toEnter) none P K → TT_X8_toEnter (k+1) As w P → K 0 (lv_args 0 As) [] w := by
  intro As w P K S h
  unfold TT_X8_toEnter at h
  split at h
  · rename_i p d
    obtain ⟨⟨hT, hp, hp2, hpM, hEN, hOw, hK0, hVk, hk, t, et, ht⟩, hq⟩ := h
    obtain ⟨ed, hd⟩ := qn_eq hp (by decide)
    obtain ⟨ep, hp8⟩ := qn_eq hp2 (by decide)
    have hN := hT.1.2.1
    have hb := hT.2.2.2.2.2.1
    obtain ⟨n, en⟩ : ∃ n, bEn (mBD w (qn (w.1 8 8))) (qn p) = n := ⟨_, rfl⟩
    have hEN : bEn (mBD w (qn (w.1 8 8))) (qn p) < qn (w.1 8 8) := hEN
    have hOw : bOw (mBD w (qn (w.1 8 8))) (bEn (mBD w (qn (w.1 8 8))) (qn p)) = qn p := hOw
    have hK0 : bK (mBD w (qn (w.1 8 8))) (bEn (mBD w (qn (w.1 8 8))) (qn p)) = 0 := hK0
    have hVk : bW (mBD w (qn (w.1 8 8))) (bEn (mBD w (qn (w.1 8 8))) (qn p)) (qn d) < k + 1 := hVk
    have ht : t + bW (mBD w (qn (w.1 8 8))) (bEn (mBD w (qn (w.1 8 8))) (qn p)) (qn d) + 1 ≤ 300 := ht
    have hq : ∀ l : List (Nat × Nat × Nat), l.length = bW (mBD w (qn (w.1 8 8))) (bEn (mBD w (qn (w.1 8 8))) (qn p)) (qn d) + 1 → (∀ d0, ∃ s', bRun (mBD w (qn (w.1 8 8))) l.reverse (bEn (mBD w (qn (w.1 8 8))) (qn p), qn d, d0, []) s') → P none (wApp w l) := hq
    rw [en] at hEN hOw hK0 hVk ht hq
    have e39 : w.1 39 p.toNatClampNeg = nI n := by
      obtain ⟨p', m, r1, r2, r3, r4, -⟩ := hT.2.1 n hEN
      have z : (if n < qn (w.1 8 8) then qn (w.1 42 n) else 0) = qn p := hOw
      rw [if_pos hEN, r3, qn_nI (by omega)] at z
      subst z
      have z2 : (if qn p < qn (w.1 8 2) then qn (w.1 39 (qn p)) else 0) = n := en
      rw [if_pos hpM, r4, qn_nI (by omega)] at z2
      subst z2
      exact r4
    refine qq_go_ok S (fun pc => Nat.beq pc 15 || Nat.beq pc 31) 80 ?_
    conv => whnf
    refine ⟨hp2, ?_⟩
    conv => whnf
    refine ⟨fun h => ?_, fun h => ?_⟩
    · have h : ¬ p = 0 := h
      conv => whnf
      refine qq_wk S (te_31 S (x3 := w.1 39 p.toNatClampNeg) (N := qn (w.1 8 8)) rfl hT hp8 ep ed hd e39 hEN hVk (by omega) et ht hOw hK0 (fun z => h ?_) hq) ⟨rfl, rfl, rfl, rfl, trivial⟩
      have z := z.1
      rw [hOw] at z
      rw [ep, z]
      rfl
    · have h : p = 0 := h
      have h0 : qn p = 0 := by rw [h]; rfl
      conv => whnf
      refine ⟨trivial, ?_⟩
      conv => whnf
      refine qq_wk S (te_15 S (x3 := w.1 39 p.toNatClampNeg) (b := mBegin w) ed hd et (by omega) (fun z => ?_) (fun z => te_31 S (N := qn (w.1 8 8)) rfl hT hp8 ep ed hd e39 hEN hVk (by omega) et ht hOw hK0 (fun y => z y.2.2) hq)) ⟨rfl, rfl, rfl, rfl, trivial⟩
      have hbg : bOw (mBD w (qn (w.1 8 8))) n = 0 ∧ bBg (mBD w (qn (w.1 8 8))) (qn d) := ⟨hOw.trans h0, hd, z⟩
      have hz : bW (mBD w (qn (w.1 8 8))) n (qn d) = 0 := hb.2.2.2.2.2.2.2.2.2.2 n (qn d) hEN hd hK0 hbg.1 hbg.2
      have key := hq [(n, qn d, 0)] (by rw [hz]; rfl) (fun d0 => ⟨(n, qn d, d0, []), (n, qn d, d0, []), ⟨rfl, rfl, Or.inr (Or.inl ⟨hK0, rfl, hbg, rfl, rfl, rfl, rfl, rfl⟩)⟩, rfl⟩)
      rw [e39, ed]
      exact key
  · exact h.elim
theorem ha_X8_toEnter (k : Nat) : ∀ As w P, TT_X8_toEnter k As w P → qq_wd As ≤ 9 := by
  intro As w P h
  unfold TT_X8_toEnter at h
  split at h
  · exact Nat.le_of_ble_eq_true rfl
  · exact h.elim
set_option maxRecDepth 100000 in
theorem MM_X8_toEnter (l : Launch) (k : Nat) (h_X8_toState : qq_M l ww_T ww_N vwCl ww_sh ww_ro ww_zs yX8_toState cX8_toState 7 none (ww_rm (2*k+8)) (TT_X8_toState (k))) : qq_M l ww_T ww_N vwCl ww_sh ww_ro ww_zs yX8_toEnter cX8_toEnter 9 none (ww_rm (2*k+9)) (TT_X8_toEnter (k+1)) := by
  refine qq_mk (host := RX7) (is := ki_X8_toEnter) (cs := cs_X8_toEnter k) (by decide) ww_k1 wl_X8 ww_so ww_so2 kc_X8_toEnter kv_X8_toEnter kg_X8_toEnter ?_ (ha_X8_toEnter _) (bd_X8_toEnter k)
  intro k i q hi hq
  match k, hi, hq with
  | 0, hi, hq => cases hi; cases hq; exact fun p e s m args below meth c D tys tC ad Q pc X hdg => qq_cV (ci := 8) X ww_gd (M_X8_beginning l) kf_X8_beginning.1 (Or.inl (ww_a5 (i := 222) (w := Cond.methodLink RX8 210 yX8_beginning) rfl rfl)) kf_X8_beginning.2.1 kf_X8_beginning.2.2.1 kf_X8_beginning.2.2.2 ⟨by decide, by decide, by decide +kernel⟩ rfl rfl rfl ⟨by simp only [ww_rm]; omega, by simp only [ww_rm]; omega⟩ ⟨Nat.le_refl _, Nat.le_refl _⟩ hv_X8_beginning hdg
  | 1, hi, hq => cases hi; cases hq; exact fun p e s m args below meth c D tys tC ad Q pc X hdg => qq_cV (ci := 8) X ww_gd (M2_X8_comes l) kf_X8_comes.1 (Or.inl (ww_a6 (i := 98) (w := Cond.methodLink RX8 293 yX8_comes) rfl rfl)) kf_X8_comes.2.1 kf_X8_comes.2.2.1 kf_X8_comes.2.2.2 ⟨by decide, by decide, by decide +kernel⟩ rfl rfl rfl ⟨by simp only [ww_rm]; omega, by simp only [ww_rm]; omega⟩ ⟨Nat.le_refl _, Nat.le_refl _⟩ hv2_X8_comes hdg
  | 2, hi, hq => cases hi; cases hq; exact fun p e s m args below meth c D tys tC ad Q pc X hdg => qq_cV (ci := 8) X ww_gd (M_X8_holdsAt l) kf_X8_holdsAt.1 (Or.inl (ww_a5 (i := 238) (w := Cond.methodLink RX8 214 yX8_holdsAt) rfl rfl)) kf_X8_holdsAt.2.1 kf_X8_holdsAt.2.2.1 kf_X8_holdsAt.2.2.2 ⟨by decide, by decide, by decide +kernel⟩ rfl rfl rfl ⟨by simp only [ww_rm]; omega, by simp only [ww_rm]; omega⟩ ⟨Nat.le_refl _, Nat.le_refl _⟩ hv_X8_holdsAt hdg
  | 3, hi, hq => cases hi; cases hq; exact fun p e s m args below meth c D tys tC ad Q pc X hdg => qq_cV (ci := 8) X ww_gd (M_X8_flows l) kf_X8_flows.1 (Or.inl (ww_a5 (i := 187) (w := Cond.methodLink RX8 184 yX8_flows) rfl rfl)) kf_X8_flows.2.1 kf_X8_flows.2.2.1 kf_X8_flows.2.2.2 ⟨by decide, by decide, by decide +kernel⟩ rfl rfl rfl ⟨by simp only [ww_rm]; omega, by simp only [ww_rm]; omega⟩ ⟨Nat.le_refl _, Nat.le_refl _⟩ hv_X8_flows hdg
  | 4, hi, hq => cases hi; cases hq; exact fun p e s m args below meth c D tys tC ad Q pc X hdg => qq_cS X ww_gd h_X8_toState kf_X8_toState.1 (Or.inl (ww_a6 (i := 92) (w := Cond.methodLink RX8 296 yX8_toState) rfl rfl)) kf_X8_toState.2.1 kf_X8_toState.2.2 ⟨by decide, by decide, by show _ = some 3; decide +kernel⟩ rfl rfl ⟨by simp only [ww_rm]; omega, by simp only [ww_rm]; omega⟩ ⟨Nat.le_refl _, Nat.le_refl _⟩ hdg
  | n + 5, hi, hq => simp [cs_X8_toEnter] at hq
