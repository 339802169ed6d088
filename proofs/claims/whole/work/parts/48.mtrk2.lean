abbrev cs_X8_toLevel (k : Nat) : List (Nat × qq_t) := [(4, T_X8_at), (5, TT_X8_toReturn (k)), (3, T_X8_leads), (4, T_X8_flows), (4, TT_X8_toLevel (k)), (4, T2_X8_comes)]
theorem tl_bit {w : qq_w} {n p g f N : Nat} {x f' : Int32} (hn : n < N) (hg : g < 13) (ef : f' = nI f) (hf : f < 13) (hx : mTgt w n p (nI g) x) : (x >>> (f' &&& 31)) &&& 1 = 1 ↔ bF (mBD w N) n p g f := by
  rw [ef, mD_F hn hg hf, ← mF_iff hx]
  exact b_has1 (by omega) _
theorem tl_60 {k : Nat} {P : Option Value → qq_w → Prop} {K : Nat → qq_L → List Value → qq_w → Prop} (S : qq_Sat ww_sh ww_ro (cs_X8_toLevel k) (qq_at 144 kd_X8_toLevel) none P K) {w : qq_w} {a d f x6 : Int32} {v : Int64} {n dn fn V N t m g0 : Nat} (eN : qn (w.1 8 8) = N) (hT : mTrk w N) (ea : a = nI n) (hn : n < N) (ed : d = nI dn) (hd : dn < 13) (ef : f = nI fn) (hf : fn < 13) (ev : v = lN V) (hV : bL (mBD w N) n dn fn = V + 1) (hVk : V < k) (hk : k < 300) (et : w.1 8 44 = nI t) (ht : t + V + 1 ≤ 300)
    (h10 : ¬ bK (mBD w N) n = 10) (h0 : ¬ bK (mBD w N) n = 0) (hg0 : g0 < 13) (hx : lst (bPE (mBD w N) n dn fn) (13 * m + g0)) (e6 : x6 = nI m)
    (hq : ∀ l : List (Nat × Nat × Nat), l.length = bL (mBD w N) n dn fn → (∀ st, bRun (mBD w N) l.reverse (n, fn, dn, st) (bEn (mBD w N) (bOw (mBD w N) n), dn, dn, st)) → P none (wApp w l)) :
    ∀ r i, i + r = g0 → ∀ x7 : Int32, x7 = nI i → K 60 [(0, .ref 8), (1, .int d), (2, .int a), (3, .int f), (4, .long v), (6, .int x6), (7, .int x7)] [] w := by
  have hP := hT.1
  have hN := hP.2.1
  have hE : vp_in (w.1 8 20) 121 := by
    obtain ⟨E, hE, eE, -⟩ := hP.2.2.2.1
    exact i_in 121 eE (by omega) (by decide)
  obtain ⟨hx1, hx2⟩ := hx
  have q1 : (13 * m + g0) / 13 = m := by omega
  have q2 : (13 * m + g0) % 13 = g0 := by omega
  unfold bPE at hx1
  rw [q1, q2] at hx1
  obtain ⟨y1, y2, y3⟩ := hx1
  have hm : m < N := y3.1
  have hlead : mLeads w x6 a := by rw [e6, ea]; exact (mD_E hm hn).mp y1
  have q6 : qn x6 = m := by rw [e6]; exact qn_nI (by omega)
  intro r
  induction r with
  | zero =>
    intro i hi x7 e7
    have : i = g0 := by omega
    subst this
    obtain ⟨A, eA, hA, hA2⟩ := mD_L hT.2.2.1 hN hm hd hg0
    have hA3 : A = V := by
      rw [hA2, hV] at y2
      split at y2 <;> omega
    subst hA3
    have e := nI_at e6 ed e7
    have ce := i_c e (by omega)
    have cv : w.2 59 ((169 : Int32) * x6 + 13 * d + x7).toNatClampNeg = v := by rw [ce, eA, ev]
    have qd : qn d = dn := by rw [ed]; exact qn_nI (by omega)
    have q7 : qn x7 = i := by rw [e7]; exact qn_nI (by omega)
    refine qq_go_ok S (fun pc => Nat.beq pc 60) 80 ?_
    conv => whnf
    refine br_f (i_nge 13 e7 (by omega) (by omega)) ?_
    conv => whnf
    refine ⟨hE, fun _ => ?_, fun z => absurd hlead z⟩
    conv => whnf
    refine br_f (by decide) ?_
    conv => whnf
    refine ⟨i_in 10816 e (by omega) (by decide), ?_⟩
    conv => whnf
    refine br_nf (lcmp0.mpr cv) ?_
    conv => whnf
    refine ⟨⟨i_in 64 e6 (by omega) (by decide), i_in 3 (k := 0) rfl (by omega) (by decide), i_in 13 e7 (by omega) (by decide), by rw [q6]; exact hP.2.2.2.2.1 m hm⟩, fun x hx => ?_⟩
    have hx : mTgt w m 0 (nI i) x := by rw [← q6, ← e7]; exact hx
    conv => whnf
    refine br_nf ((tl_bit hm hg0 ef hf hx).mpr y3) ?_
    conv => whnf
    refine ⟨⟨by rw [eN]; exact hT, i_in 13 ed hd (by decide), i_in 13 e7 (by omega) (by decide), i_in 64 e6 (by omega) (by decide), by rw [eN, q6]; exact hm, ?_, by omega, t, et, ?_⟩, fun l hl hr => ?_⟩
    · show bL (mBD w (qn (w.1 8 8))) (qn x6) (qn d) (qn x7) < k
      rw [eN, q6, qd, q7]; omega
    · show t + bL (mBD w (qn (w.1 8 8))) (qn x6) (qn d) (qn x7) ≤ 300
      rw [eN, q6, qd, q7]; omega
    have hl : l.length = bL (mBD w (qn (w.1 8 8))) (qn x6) (qn d) (qn x7) := hl
    have hr : ∀ st, bRun (mBD w (qn (w.1 8 8))) l.reverse (qn x6, qn x7, qn d, st) (bEn (mBD w (qn (w.1 8 8))) (bOw (mBD w (qn (w.1 8 8))) (qn x6)), qn d, qn d, st) := hr
    rw [eN, q6, qd, q7] at hl hr
    conv => whnf
    have e44 := wApp_44 l w t et
    refine ⟨i_in 300 e44 (by omega) (by decide), ?_⟩
    conv => whnf
    have key := hq (l ++ [(n, fn, 1)]) (by simp only [List.length_append, List.length_cons, List.length_nil]; omega) (fun st => ?_)
    · rw [wApp_app] at key
      rw [ea, ef]
      exact key
    · rw [List.reverse_append]
      have hb4 := hT.2.2.2.2.2.1.2.2.2.1 m n y1
      have hr := hr st
      rw [hb4] at hr
      refine ⟨(m, i, dn, st), ⟨rfl, rfl, Or.inr (Or.inr (Or.inr (Or.inr (Or.inr ⟨h0, h10, rfl, hg0, ⟨?_, hx2⟩, rfl, rfl⟩))))⟩, hr⟩
      show bPE (mBD w N) n dn fn (13 * m + i)
      unfold bPE
      rw [q1, q2]
      exact ⟨y1, y2, y3⟩
  | succ r ih =>
    intro i hi x7 e7
    obtain ⟨A, eA, hA, hA2⟩ := mD_L hT.2.2.1 hN hm hd (show i < 13 by omega)
    have e := nI_at e6 ed e7
    have ce := i_c e (by omega)
    have cv : w.2 59 ((169 : Int32) * x6 + 13 * d + x7).toNatClampNeg = v ↔ A = V := by rw [ce, eA, ev]; exact lL_eq (by omega) (by omega)
    have hno : ¬ (A = V ∧ bF (mBD w N) m 0 i fn) := by
      rintro ⟨z1, z2⟩
      refine hx2 (13 * m + i) (by omega) ?_
      unfold bPE
      rw [show (13 * m + i) / 13 = m by omega, show (13 * m + i) % 13 = i by omega]
      refine ⟨y1, ?_, z2⟩
      rw [hA2, hV, if_pos (by omega), z1]
    refine qq_go_ok S (fun pc => Nat.beq pc 60) 80 ?_
    conv => whnf
    refine br_f (i_nge 13 e7 (by omega) (by omega)) ?_
    conv => whnf
    refine ⟨hE, fun _ => ?_, fun z => absurd hlead z⟩
    conv => whnf
    refine br_f (by decide) ?_
    conv => whnf
    refine ⟨i_in 10816 e (by omega) (by decide), ?_⟩
    conv => whnf
    refine ⟨fun z => ?_, fun z => ?_⟩
    · conv => whnf
      exact qq_wk S (ih (i + 1) (by omega) _ (i_s e7)) ⟨rfl, rfl, rfl, rfl, rfl, rfl, rfl, trivial⟩
    · have z := cv.mp (lcmp0.mp z)
      conv => whnf
      refine ⟨⟨i_in 64 e6 (by omega) (by decide), i_in 3 (k := 0) rfl (by omega) (by decide), i_in 13 e7 (by omega) (by decide), by rw [q6]; exact hP.2.2.2.2.1 m hm⟩, fun x hx => ?_⟩
      have hx : mTgt w m 0 (nI i) x := by rw [← q6, ← e7]; exact hx
      conv => whnf
      refine br_nt (fun y => hno ⟨z, (tl_bit hm (by omega) ef hf hx).mp y⟩) ?_
      conv => whnf
      exact qq_wk S (ih (i + 1) (by omega) _ (i_s e7)) ⟨rfl, rfl, rfl, rfl, rfl, rfl, rfl, trivial⟩
theorem tl_60' {k : Nat} {P : Option Value → qq_w → Prop} {K : Nat → qq_L → List Value → qq_w → Prop} (S : qq_Sat ww_sh ww_ro (cs_X8_toLevel k) (qq_at 144 kd_X8_toLevel) none P K) {w : qq_w} {a d f x6 : Int32} {v : Int64} {n dn fn V N m : Nat} (eN : qn (w.1 8 8) = N) (hT : mTrk w N) (ea : a = nI n) (hn : n < N) (ed : d = nI dn) (hd : dn < 13) (ef : f = nI fn) (hf : fn < 13) (ev : v = lN V) (hV : bL (mBD w N) n dn fn = V + 1) (hV2 : V < 300)
    (hm : m < N) (hx : ∀ g, g < 13 → ¬ bPE (mBD w N) n dn fn (13 * m + g)) (e6 : x6 = nI m)
    (hk : K 48 [(0, .ref 8), (1, .int d), (2, .int a), (3, .int f), (4, .long v), (6, .int (x6 + 1))] [] w) :
    ∀ r i, i + r = 13 → ∀ x7 : Int32, x7 = nI i → K 60 [(0, .ref 8), (1, .int d), (2, .int a), (3, .int f), (4, .long v), (6, .int x6), (7, .int x7)] [] w := by
  have hP := hT.1
  have hN := hP.2.1
  have hE : vp_in (w.1 8 20) 121 := by
    obtain ⟨E, hE, eE, -⟩ := hP.2.2.2.1
    exact i_in 121 eE (by omega) (by decide)
  have q6 : qn x6 = m := by rw [e6]; exact qn_nI (by omega)
  intro r
  induction r with
  | zero =>
    intro i hi x7 e7
    refine qq_go_ok S (fun pc => Nat.beq pc 60 || Nat.beq pc 48) 80 ?_
    conv => whnf
    refine br_t (i_ge 13 e7 (by omega) (by omega)) ?_
    conv => whnf
    exact qq_wk S hk ⟨rfl, rfl, rfl, rfl, rfl, rfl, trivial⟩
  | succ r ih =>
    intro i hi x7 e7
    obtain ⟨A, eA, hA, hA2⟩ := mD_L hT.2.2.1 hN hm hd (show i < 13 by omega)
    have e := nI_at e6 ed e7
    have ce := i_c e (by omega)
    have cv : w.2 59 ((169 : Int32) * x6 + 13 * d + x7).toNatClampNeg = v ↔ A = V := by rw [ce, eA, ev]; exact lL_eq (by omega) (by omega)
    have hno : ¬ (mLeads w x6 a ∧ A = V ∧ bF (mBD w N) m 0 i fn) := by
      rintro ⟨z0, z1, z2⟩
      refine hx i (by omega) ?_
      unfold bPE
      rw [show (13 * m + i) / 13 = m by omega, show (13 * m + i) % 13 = i by omega]
      refine ⟨(mD_E hm hn).mpr (by rw [← e6, ← ea]; exact z0), ?_, z2⟩
      rw [hA2, hV, if_pos (by omega), z1]
    refine qq_go_ok S (fun pc => Nat.beq pc 60 || Nat.beq pc 48) 80 ?_
    conv => whnf
    refine br_f (i_nge 13 e7 (by omega) (by omega)) ?_
    conv => whnf
    refine ⟨hE, fun y0 => ?_, fun y0 => ?_⟩
    · have y0 : mLeads w x6 a := y0
      conv => whnf
      refine br_f (by decide) ?_
      conv => whnf
      refine ⟨i_in 10816 e (by omega) (by decide), ?_⟩
      conv => whnf
      refine ⟨fun z => ?_, fun z => ?_⟩
      · conv => whnf
        exact qq_wk S (ih (i + 1) (by omega) _ (i_s e7)) ⟨rfl, rfl, rfl, rfl, rfl, rfl, rfl, trivial⟩
      · have z := cv.mp (lcmp0.mp z)
        conv => whnf
        refine ⟨⟨i_in 64 e6 (by omega) (by decide), i_in 3 (k := 0) rfl (by omega) (by decide), i_in 13 e7 (by omega) (by decide), by rw [q6]; exact hP.2.2.2.2.1 m hm⟩, fun x hx => ?_⟩
        have hx : mTgt w m 0 (nI i) x := by rw [← q6, ← e7]; exact hx
        conv => whnf
        refine br_nt (fun y => hno ⟨y0, z, (tl_bit hm (by omega) ef hf hx).mp y⟩) ?_
        conv => whnf
        exact qq_wk S (ih (i + 1) (by omega) _ (i_s e7)) ⟨rfl, rfl, rfl, rfl, rfl, rfl, rfl, trivial⟩
    · conv => whnf
      refine br_t rfl ?_
      conv => whnf
      exact qq_wk S hk ⟨rfl, rfl, rfl, rfl, rfl, rfl, trivial⟩
theorem tl_48 {k : Nat} {P : Option Value → qq_w → Prop} {K : Nat → qq_L → List Value → qq_w → Prop} (S : qq_Sat ww_sh ww_ro (cs_X8_toLevel k) (qq_at 144 kd_X8_toLevel) none P K) {w : qq_w} {a d f : Int32} {v : Int64} {n dn fn V N t m g0 : Nat} (eN : qn (w.1 8 8) = N) (hT : mTrk w N) (ea : a = nI n) (hn : n < N) (ed : d = nI dn) (hd : dn < 13) (ef : f = nI fn) (hf : fn < 13) (ev : v = lN V) (hV : bL (mBD w N) n dn fn = V + 1) (hVk : V < k) (hk : k < 300) (et : w.1 8 44 = nI t) (ht : t + V + 1 ≤ 300)
    (h10 : ¬ bK (mBD w N) n = 10) (h0 : ¬ bK (mBD w N) n = 0) (hg0 : g0 < 13) (hx : lst (bPE (mBD w N) n dn fn) (13 * m + g0)) (hm : m < N)
    (hq : ∀ l : List (Nat × Nat × Nat), l.length = bL (mBD w N) n dn fn → (∀ st, bRun (mBD w N) l.reverse (n, fn, dn, st) (bEn (mBD w N) (bOw (mBD w N) n), dn, dn, st)) → P none (wApp w l)) :
    ∀ r i, i + r = m → ∀ x6 : Int32, x6 = nI i → K 48 [(0, .ref 8), (1, .int d), (2, .int a), (3, .int f), (4, .long v), (6, .int x6)] [] w := by
  have hN := hT.1.2.1
  have e8 : w.1 8 8 = nI N := hT.1.1
  intro r
  induction r with
  | zero =>
    intro i hi x6 e6
    have : i = m := by omega
    subst this
    refine qq_go_ok S (fun pc => Nat.beq pc 60) 80 ?_
    conv => whnf
    refine br_f (i_lt' e6 e8 (by omega) (by omega)) ?_
    conv => whnf
    exact qq_wk S (tl_60 S eN hT ea hn ed hd ef hf ev hV hVk hk et ht h10 h0 hg0 hx e6 hq g0 0 (Nat.zero_add _) _ rfl) ⟨rfl, rfl, rfl, rfl, rfl, rfl, rfl, trivial⟩
  | succ r ih =>
    intro i hi x6 e6
    refine qq_go_ok S (fun pc => Nat.beq pc 60) 80 ?_
    conv => whnf
    refine br_f (i_lt' e6 e8 (by omega) (by omega)) ?_
    conv => whnf
    exact qq_wk S (tl_60' S eN hT ea hn ed hd ef hf ev hV (by omega) (by omega) (fun g hg => hx.2 _ (by omega)) e6 (ih (i + 1) (by omega) _ (i_s e6)) 13 0 rfl _ rfl) ⟨rfl, rfl, rfl, rfl, rfl, rfl, rfl, trivial⟩
set_option maxHeartbeats 4000000 in
set_option maxRecDepth 100000 in
theorem bd_X8_toLevel (k : Nat) : ∀ As w P K, qq_Sat ww_sh ww_ro (cs_X8_toLevel k) (qq_at 144 kd_X8_toLevel) none P K → TT_X8_toLevel (k+1) As w P → K 0 (lv_args 0 As) [] w := by
  intro As w P K S h
  unfold TT_X8_toLevel at h
  split at h
  · rename_i d n f
    obtain ⟨⟨hT, hp, hp2, hp3, hn, hV, hk, t, et, ht⟩, hq⟩ := h
    obtain ⟨ed, hd⟩ := qn_eq hp (by decide)
    obtain ⟨ef, hf⟩ := qn_eq hp2 (by decide)
    obtain ⟨ea, ha⟩ := qn_eq hp3 (by decide)
    have hN := hT.1.2.1
    have hb := hT.2.2.2.2.2.1
    obtain ⟨A, eA, hA, hA2⟩ := mD_L hT.2.2.1 hN hn hd hf
    have e := nI_at ea ed ef
    have ce := i_c e (by omega)
    have cv : w.2 59 ((169 : Int32) * n + 13 * d + f).toNatClampNeg = lN A := by rw [ce]; exact eA
    have hA3 : bL (mD w) (qn n) (qn d) (qn f) = A := by
      show bL (mBD w (qn (w.1 8 8))) (qn n) (qn d) (qn f) = A
      rw [hA2] at hV ⊢
      split at hV <;> rename_i z
      · rw [if_pos z]
      · omega
    have hA4 : A < 300 := by omega
    rcases Nat.eq_zero_or_pos A with z | z
    · subst z
      have ez : w.2 59 ((169 : Int32) * n + 13 * d + f).toNatClampNeg - 1 = -1 := by rw [cv]; rfl
      refine qq_go_ok S (fun pc => Nat.beq pc 48) 80 ?_
      conv => whnf
      refine ⟨i_in 10816 e (by omega) (by decide), ?_⟩
      conv => whnf
      refine br_f (fun y => lcmp_ge.mp y ?_) ?_
      · show w.2 59 ((169 : Int32) * n + 13 * d + f).toNatClampNeg - 1 < 0
        rw [ez]; decide
      conv => whnf
      obtain ⟨z1, z2⟩ := hb.1 (qn n) (qn d) (qn f) hn hd hf hA3
      refine hq [] (by rw [hA3]; rfl) (fun st => ?_)
      show (qn n, qn f, qn d, st) = _
      rw [← z1, z2]
    · obtain ⟨V, rfl⟩ : ∃ V, A = V + 1 := ⟨A - 1, by omega⟩
      have ev : w.2 59 ((169 : Int32) * n + 13 * d + f).toNatClampNeg - 1 = lN V := by rw [cv]; exact lN_p1 V
      refine qq_go_ok S (fun pc => Nat.beq pc 48) 80 ?_
      conv => whnf
      refine ⟨i_in 10816 e (by omega) (by decide), ?_⟩
      conv => whnf
      refine br_t (lcmp_ge.mpr fun y => ?_) ?_
      · have y : w.2 59 ((169 : Int32) * n + 13 * d + f).toNatClampNeg - 1 < 0 := y
        rw [ev] at y
        exact absurd ((lL_lt (b := 0) (by omega) (by omega)).mp y) (Nat.not_lt_zero _)
      conv => whnf
      refine ⟨hp3, ?_⟩
      conv => whnf
      refine ⟨fun h10 => ?_, fun h10 => ?_⟩
      · have h10 : ¬ w.1 43 (qn n) = 10 := h10
        have h10' : ¬ bK (mBD w (qn (w.1 8 8))) (qn n) = 10 := by rw [mD_K hn]; exact h10
        have hA5 : bL (mBD w (qn (w.1 8 8))) (qn n) (qn d) (qn f) = V + 1 := hA3
        obtain ⟨h0, x0, hx0⟩ := hb.2.1 (qn n) (qn d) (qn f) hn hd hf h10' (by rw [hA5]; omega) (by rw [hA5]; omega)
        obtain ⟨x, hx, -⟩ := lst_ex hx0
        conv => whnf
        have hx13 : 13 * (x / 13) + x % 13 = x := by omega
        refine qq_wk S (tl_48 S (N := qn (w.1 8 8)) (m := x / 13) (g0 := x % 13) (V := V) rfl hT ea hn ed hd ef hf ev hA3 (by omega) (by omega) et (by omega) h10' h0 (by omega) (by rw [hx13]; exact hx) hx.1.1.1 hq (x / 13) 0 (Nat.zero_add _) _ rfl) ⟨rfl, rfl, rfl, rfl, rfl, rfl, trivial⟩
      · have h10 : w.1 43 (qn n) = 10 := h10
        conv => whnf
        refine ⟨⟨hT, hp, hp2, hp3, hn, h10, ⟨V, ev, hA3, by omega⟩, by omega, t, et, ht⟩, fun l hl hr => ?_⟩
        conv => whnf
        exact hq l hl hr
  · exact h.elim
theorem ha_X8_toLevel (k : Nat) : ∀ As w P, TT_X8_toLevel k As w P → qq_wd As ≤ 8 := by
  intro As w P h
  unfold TT_X8_toLevel at h
  split at h
  · exact Nat.le_of_ble_eq_true rfl
  · exact h.elim
set_option maxRecDepth 100000 in
theorem MM_X8_toLevel (l : Launch) (k : Nat) (h_X8_toReturn : qq_M l ww_T ww_N vwCl ww_sh ww_ro ww_zs yX8_toReturn cX8_toReturn 17 none (ww_rm (2*k+6)) (TT_X8_toReturn (k))) (h_X8_toLevel : qq_M l ww_T ww_N vwCl ww_sh ww_ro ww_zs yX8_toLevel cX8_toLevel 8 none (ww_rm (2*k+5)) (TT_X8_toLevel (k))) : qq_M l ww_T ww_N vwCl ww_sh ww_ro ww_zs yX8_toLevel cX8_toLevel 8 none (ww_rm (2*k+7)) (TT_X8_toLevel (k+1)) := by
  refine qq_mk (host := RX7) (is := ki_X8_toLevel) (cs := cs_X8_toLevel k) (by decide) ww_k1 wl_X8 ww_so ww_so2 kc_X8_toLevel kv_X8_toLevel kg_X8_toLevel ?_ (ha_X8_toLevel _) (bd_X8_toLevel k)
  intro k i q hi hq
  match k, hi, hq with
  | 0, hi, hq => cases hi; cases hq; exact fun p e s m args below meth c D tys tC ad Q pc X hdg => qq_cV (ci := 8) X ww_gd (M_X8_at l) kf_X8_at.1 (Or.inl (ww_a6 (i := 61) (w := Cond.methodLink RX8 251 yX8_at) rfl rfl)) kf_X8_at.2.1 kf_X8_at.2.2.1 kf_X8_at.2.2.2 ⟨by decide, by decide, by decide +kernel⟩ rfl rfl rfl ⟨by simp only [ww_rm]; omega, by simp only [ww_rm]; omega⟩ ⟨Nat.le_refl _, Nat.le_refl _⟩ hv_X8_at hdg
  | 1, hi, hq => cases hi; cases hq; exact fun p e s m args below meth c D tys tC ad Q pc X hdg => qq_cS X ww_gd h_X8_toReturn kf_X8_toReturn.1 (Or.inl (ww_a6 (i := 105) (w := Cond.methodLink RX8 307 yX8_toReturn) rfl rfl)) kf_X8_toReturn.2.1 kf_X8_toReturn.2.2 ⟨by decide, by decide, by show _ = some 5; decide +kernel⟩ rfl rfl ⟨by simp only [ww_rm]; omega, by simp only [ww_rm]; omega⟩ ⟨Nat.le_refl _, Nat.le_refl _⟩ hdg
  | 2, hi, hq => cases hi; cases hq; exact fun p e s m args below meth c D tys tC ad Q pc X hdg => qq_cV (ci := 8) X ww_gd (M_X8_leads l) kf_X8_leads.1 (Or.inl (ww_a6 (i := 108) (w := Cond.methodLink RX8 311 yX8_leads) rfl rfl)) kf_X8_leads.2.1 kf_X8_leads.2.2.1 kf_X8_leads.2.2.2 ⟨by decide, by decide, by decide +kernel⟩ rfl rfl rfl ⟨by simp only [ww_rm]; omega, by simp only [ww_rm]; omega⟩ ⟨Nat.le_refl _, Nat.le_refl _⟩ hv_X8_leads hdg
  | 3, hi, hq => cases hi; cases hq; exact fun p e s m args below meth c D tys tC ad Q pc X hdg => qq_cV (ci := 8) X ww_gd (M_X8_flows l) kf_X8_flows.1 (Or.inl (ww_a5 (i := 187) (w := Cond.methodLink RX8 184 yX8_flows) rfl rfl)) kf_X8_flows.2.1 kf_X8_flows.2.2.1 kf_X8_flows.2.2.2 ⟨by decide, by decide, by decide +kernel⟩ rfl rfl rfl ⟨by simp only [ww_rm]; omega, by simp only [ww_rm]; omega⟩ ⟨Nat.le_refl _, Nat.le_refl _⟩ hv_X8_flows hdg
  | 4, hi, hq => cases hi; cases hq; exact fun p e s m args below meth c D tys tC ad Q pc X hdg => qq_cS X ww_gd h_X8_toLevel kf_X8_toLevel.1 (Or.inl (ww_a6 (i := 102) (w := Cond.methodLink RX8 303 yX8_toLevel) rfl rfl)) kf_X8_toLevel.2.1 kf_X8_toLevel.2.2 ⟨by decide, by decide, by show _ = some 4; decide +kernel⟩ rfl rfl ⟨by simp only [ww_rm]; omega, by simp only [ww_rm]; omega⟩ ⟨Nat.le_refl _, Nat.le_refl _⟩ hdg
  | 5, hi, hq => cases hi; cases hq; exact fun p e s m args below meth c D tys tC ad Q pc X hdg => qq_cV (ci := 8) X ww_gd (M2_X8_comes l) kf_X8_comes.1 (Or.inl (ww_a6 (i := 98) (w := Cond.methodLink RX8 293 yX8_comes) rfl rfl)) kf_X8_comes.2.1 kf_X8_comes.2.2.1 kf_X8_comes.2.2.2 ⟨by decide, by decide, by decide +kernel⟩ rfl rfl rfl ⟨by simp only [ww_rm]; omega, by simp only [ww_rm]; omega⟩ ⟨Nat.le_refl _, Nat.le_refl _⟩ hv2_X8_comes hdg
  | n + 6, hi, hq => simp [cs_X8_toLevel] at hq
