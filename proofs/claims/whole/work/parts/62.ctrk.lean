/-- what tracks are made of, by the class -/
def cBD (w : qq_w) (N M : Nat) : BD := (fun n => if n < N then cX w n 1 else 0, fun n d f => if n < N ∧ d < 13 ∧ f < 13 then lu (w.2 33 (169 * n + 13 * d + f)) else 10000000000000, fun n f => if n < N ∧ f < 13 then lu (w.2 24 (13 * n + f)) else 10000000000000, fun n p f g => n < N ∧ f < 13 ∧ g < 13 ∧ bt (w.1 19 (39 * n + 13 * p + f)) g = true, fun m n => m < N ∧ n < N ∧ lb (w.2 17 m) n = true, fun n => if n < N ∧ cX w n 1 = 10 then qn (cX w n 9) else 0, fun n => if n < N ∧ cX w n 1 = 9 then qn (cX w n 5) else 0, fun n => if n < N then qn (cX w n 0) else 0, fun p => if p < M then qn (w.1 12 p) else 0, fun p => if p < M then qn (w.1 12 p) + 1 else 0, fun f => f < 13 ∧ bt (cBegin w) f = true)
def cTp (w : qq_w) (N M : Nat) : Prop := cPW w N ∧ (∀ j, fs (w.1 19 j)) ∧ cOwn w N M ∧ M ≤ 8 ∧ w.1 1 9 = nI M ∧ lOk (w.2 33) 2000000000000 (169 * N) ∧ lOk (w.2 24) 2000000000000 (13 * N) ∧ lOk (w.2 22) 2000000000000 (13 * M) ∧ (∀ n, n < N → cX w n 1 = 10 → ∃ c, c < N ∧ cX w n 9 = nI c ∧ cX w c 1 = 9) ∧ ∀ p m d, p < M → w.1 12 p = nI m → m < N → d < 13 → lu (w.2 22 (13 * p + d)) = lu (w.2 24 (13 * m + d))
/-- only the track's state has changed -/
def cTf (w w' : qq_w) : Prop := (∀ q, q ∉ [5, 25, 26, 27, 28, 29, 30, 31] → w'.1 q = w.1 q) ∧ w'.2 = w.2
theorem cTf_rf {w : qq_w} : cTf w w := ⟨fun _ _ => rfl, rfl⟩
theorem cTf_tr {w w1 w2 : qq_w} (h : cTf w w1) (h2 : cTf w1 w2) : cTf w w2 := ⟨fun q hq => (h2.1 q hq).trans (h.1 q hq), h2.2.trans h.2⟩
theorem cTf_ui {w : qq_w} {k j : Nat} {x : Int32} (hk : k ∈ [5, 25, 26, 27, 28, 29, 30, 31]) : cTf w (qq_ui w k j x) := by
  refine ⟨fun q hq => ?_, rfl⟩
  have : q ≠ k := fun e => hq (e ▸ hk)
  simp only [qq_ui, va_up, this, if_false]
theorem cX_tf {w w1 : qq_w} (h : cTf w w1) : cX w1 = cX w := by
  funext n j
  unfold cX
  rw [h.1 13 (by simp)]
theorem cBD_tf {w w1 : qq_w} (h : cTf w w1) (N M : Nat) : cBD w1 N M = cBD w N M := by
  have eb : cBegin w1 = cBegin w := by
    unfold cBegin
    rw [h.1 2 (by simp), h.1 9 (by simp)]
  unfold cBD
  rw [eb, cX_tf h, h.2, h.1 19 (by simp), h.1 12 (by simp)]
theorem cTp_tf {w w1 : qq_w} {N M : Nat} (h : cTf w w1) (hT : cTp w N M) : cTp w1 N M := by
  unfold cTp cPW cOwn at hT ⊢
  rw [cX_tf h, h.2, h.1 19 (by simp), h.1 12 (by simp), h.1 1 (by simp)]
  exact hT
abbrev cD (w : qq_w) : BD := cBD w (qn (w.1 1 10)) (qn (w.1 1 9))
theorem cD_L {w : qq_w} {N M n d f : Nat} (hO : lOk (w.2 33) 2000000000000 (169 * N)) (hn : n < N) (hd : d < 13) (hf : f < 13) : ∃ A, w.2 33 (169 * n + 13 * d + f) = lN A ∧ (A ≤ 1000000000000 ∨ A = 2000000000000) ∧ bL (cBD w N M) n d f = if A ≤ 1000000000000 then A else 10000000000000 := by
  obtain ⟨A, e, hA⟩ := hO (169 * n + 13 * d + f) (by omega)
  refine ⟨A, e, hA, ?_⟩
  show (if n < N ∧ d < 13 ∧ f < 13 then lu (w.2 33 (169 * n + 13 * d + f)) else 10000000000000) = _
  rw [if_pos ⟨hn, hd, hf⟩, e]
  unfold lu
  rw [lq_lN (by omega)]
theorem cD_W {w : qq_w} {N M n f : Nat} (hO : lOk (w.2 24) 2000000000000 (13 * N)) (hn : n < N) (hf : f < 13) : ∃ A, w.2 24 (13 * n + f) = lN A ∧ (A ≤ 1000000000000 ∨ A = 2000000000000) ∧ bW (cBD w N M) n f = if A ≤ 1000000000000 then A else 10000000000000 := by
  obtain ⟨A, e, hA⟩ := hO (13 * n + f) (by omega)
  refine ⟨A, e, hA, ?_⟩
  show (if n < N ∧ f < 13 then lu (w.2 24 (13 * n + f)) else 10000000000000) = _
  rw [if_pos ⟨hn, hf⟩, e]
  unfold lu
  rw [lq_lN (by omega)]
theorem cD_K {w : qq_w} {N M n : Nat} (hn : n < N) : bK (cBD w N M) n = cX w n 1 := if_pos hn
theorem cD_F {w : qq_w} {N M n p f g : Nat} (hn : n < N) (hf : f < 13) (hg : g < 13) : bF (cBD w N M) n p f g ↔ bt (w.1 19 (39 * n + 13 * p + f)) g = true := ⟨fun h => h.2.2.2, fun h => ⟨hn, hf, hg, h⟩⟩
theorem cD_E {w : qq_w} {N M m n : Nat} (hm : m < N) (hn : n < N) : bE (cBD w N M) m n ↔ lb (w.2 17 m) n = true := ⟨fun h => h.2.2, fun h => ⟨hm, hn, h⟩⟩
/-- the state that is laid now -/
def cAt (w : qq_w) (n f d : Nat) : Prop := w.1 5 12 = nI n ∧ w.1 5 13 = nI f ∧ w.1 5 14 = nI d
def cMove (w : qq_w) (n f : Int32) : qq_w := qq_ui (qq_ui w 5 12 n) 5 13 f
theorem ck_bit {x f : Int32} {g : Nat} (ef : f = nI g) (hg : g < 13) : (x >>> (f &&& 31)) &&& 1 = 0 ↔ bt x g = false := by rw [ef]; exact b_has (by omega) _
abbrev cs_X6_goBackWithin : List (Nat × qq_t) := [(4, T_X2_level), (4, T_X5_step), (2, T_X7_has), (3, T_X6_move)]
def T_X6_goBackWithin : qq_t := fun As w P => match As with
  | [.ref 5, .int a] => ∃ n f d V, (cTp w (qn (w.1 1 10)) (qn (w.1 1 9)) ∧ cAt w n f d ∧ n < qn (w.1 1 10) ∧ f < 13 ∧ d < 13 ∧ vp_in a 64 ∧ qn a < qn (w.1 1 10) ∧ bL (cD w) n d f = V ∧ V < 300) ∧ (∀ g, lst (fun g => bL (cD w) (qn a) d g + 1 = V ∧ bF (cD w) (qn a) 0 g f) g → P (some (.int 1)) (cMove w a (nI g))) ∧ ((∀ g, ¬ (bL (cD w) (qn a) d g + 1 = V ∧ bF (cD w) (qn a) 0 g f)) → P (some (.int 0)) w)
  | _ => False
theorem gw_25 {P : Option Value → qq_w → Prop} {K : Nat → qq_L → List Value → qq_w → Prop} (S : qq_Sat ww_sh ww_ro cs_X6_goBackWithin (qq_at 89 kd_X6_goBackWithin) (some .boolean) P K) {w : qq_w} {a : Int32} {x : Int64} {n f d V N M m : Nat} (hT : cTp w N M) (hA : cAt w n f d) (hn : n < N) (hf : f < 13) (hd : d < 13) (ea : a = nI m) (hm : m < N) (hV : V < 300) (ex : x + 1 = lN V)
    (hy : ∀ g, lst (fun g => bL (cBD w N M) m d g + 1 = V ∧ bF (cBD w N M) m 0 g f) g → P (some (.int 1)) (cMove w a (nI g))) (hz : (∀ g, ¬ (bL (cBD w N M) m d g + 1 = V ∧ bF (cBD w N M) m 0 g f)) → P (some (.int 0)) w) :
    ∀ r i, i + r = 13 → ∀ x4 : Int32, x4 = nI i → (∀ g, g < i → ¬ (bL (cBD w N M) m d g + 1 = V ∧ bF (cBD w N M) m 0 g f)) → K 25 [(0, .ref 5), (1, .int a), (2, .long x), (4, .int x4)] [] w := by
  have hN := hT.1.2.1
  intro r
  induction r with
  | zero =>
    intro i hi x4 e4 h1
    have : i = 13 := by omega
    subst this
    refine qq_go_ok S (fun pc => Nat.beq pc 25) 60 ?_
    conv => whnf
    refine br_t (i_ge 13 e4 (by omega) (by omega)) ?_
    conv => whnf
    refine hz (fun g z => h1 g ?_ z)
    exact z.2.2.1
  | succ r ih =>
    intro i hi x4 e4 h1
    obtain ⟨A, eA, hA1, hA2⟩ := cD_L (M := M) hT.2.2.2.2.2.1 hm hd (show i < 13 by omega)
    have e14 : w.1 5 14 = nI d := hA.2.2
    have e13 : w.1 5 13 = nI f := hA.2.1
    have iL := nI_lv ea e14 e4
    have cA : w.2 33 ((a * 13 + w.1 5 14) * 13 + x4).toNatClampNeg = lN A := by rw [i_c iL (by omega)]; exact eA
    have cv : w.2 33 ((a * 13 + w.1 5 14) * 13 + x4).toNatClampNeg = x ↔ bL (cBD w N M) m d i + 1 = V := by
      have : w.2 33 ((a * 13 + w.1 5 14) * 13 + x4).toNatClampNeg = x ↔ lN A + 1 = x + 1 := by
        rw [cA]
        exact ⟨fun e => by rw [e], fun e => (Int64.add_left_inj _).mp e⟩
      rw [this, ex, lN_1, lL_eq (by omega) (by omega), hA2]
      split <;> omega
    have is0 := nI_st ea (b := 0) (p := 0) rfl e4
    have c19 : w.1 19 ((a * 3 + 0) * 13 + x4).toNatClampNeg = w.1 19 (39 * m + 13 * 0 + i) := by rw [i_c is0 (by omega)]
    have hbit : (w.1 19 ((a * 3 + 0) * 13 + x4).toNatClampNeg >>> (w.1 5 13 &&& 31)) &&& 1 = 0 ↔ ¬ bF (cBD w N M) m 0 i f := by
      rw [ck_bit e13 hf, c19, cD_F hm (by omega) hf]
      simp
    have next : ¬ (bL (cBD w N M) m d i + 1 = V ∧ bF (cBD w N M) m 0 i f) → K 25 [(0, .ref 5), (1, .int a), (2, .long x), (4, .int (x4 + 1))] [] w := fun hno => by
      refine ih (i + 1) (by omega) _ (i_s e4) (fun g hg => ?_)
      by_cases q : g = i
      · subst q; exact hno
      · exact h1 g (by omega)
    refine qq_go_ok S (fun pc => Nat.beq pc 25) 60 ?_
    conv => whnf
    refine br_f (i_nge 13 e4 (by omega) (by omega)) ?_
    conv => whnf
    refine ⟨i_in 10816 iL (by omega) (by decide), ?_⟩
    conv => whnf
    refine ⟨fun z => ?_, fun z => ?_⟩
    · conv => whnf
      exact qq_wk S (next fun y => z (lcmp0.mpr (cv.mpr y.1))) ⟨rfl, rfl, rfl, rfl, trivial⟩
    · have z := cv.mp (lcmp0.mp z)
      conv => whnf
      refine ⟨i_in 2496 is0 (by omega) (by decide), ?_⟩
      conv => whnf
      refine ⟨fun z2 => ?_, fun z2 => ?_⟩
      · conv => whnf
        refine br_t rfl ?_
        conv => whnf
        exact qq_wk S (next fun y => hbit.mp z2 y.2) ⟨rfl, rfl, rfl, rfl, trivial⟩
      · have z2 : bF (cBD w N M) m 0 i f := Classical.byContradiction fun y => z2 (hbit.mpr y)
        conv => whnf
        refine br_f (by decide) ?_
        conv => whnf
        have key := hy i ⟨⟨z, z2⟩, h1⟩
        rw [← e4] at key
        exact key
set_option maxHeartbeats 4000000 in
set_option maxRecDepth 100000 in
theorem bd_X6_goBackWithin : ∀ As w P K, qq_Sat ww_sh ww_ro cs_X6_goBackWithin (qq_at 89 kd_X6_goBackWithin) (some .boolean) P K → T_X6_goBackWithin As w P → K 0 (lv_args 0 As) [] w := by
  intro As w P K S h
  unfold T_X6_goBackWithin at h
  split at h
  · rename_i a
    obtain ⟨n, f, d, V, ⟨hT, hA, hn, hf, hd, hp, hm, hV, hV3⟩, hy, hz⟩ := h
    obtain ⟨ea, ha⟩ := qn_eq hp (by decide)
    have hN := hT.1.2.1
    obtain ⟨A, eA, hA1, hA2⟩ := cD_L (M := qn (w.1 1 9)) hT.2.2.2.2.2.1 hn hd hf
    have hA3 : A = V := by
      have hV : bL (cBD w (qn (w.1 1 10)) (qn (w.1 1 9))) n d f = V := hV
      rw [hA2] at hV
      split at hV <;> omega
    subst hA3
    have iL := nI_lv hA.1 hA.2.2 hA.2.1
    have cA : w.2 33 ((w.1 5 12 * 13 + w.1 5 14) * 13 + w.1 5 13).toNatClampNeg = lN A := by rw [i_c iL (by omega)]; exact eA
    have ex : w.2 33 ((w.1 5 12 * 13 + w.1 5 14) * 13 + w.1 5 13).toNatClampNeg - 1 + 1 = lN A := by rw [cA]; exact Int64.sub_add_cancel _ _
    refine qq_go_ok S (fun pc => Nat.beq pc 25) 60 ?_
    conv => whnf
    refine ⟨i_in 10816 iL (by omega) (by decide), ?_⟩
    conv => whnf
    exact qq_wk S (gw_25 S (x := w.2 33 ((w.1 5 12 * 13 + w.1 5 14) * 13 + w.1 5 13).toNatClampNeg - 1) hT hA hn hf hd ea hm hV3 ex hy hz 13 0 rfl _ rfl (fun g hg => absurd hg (by omega))) ⟨rfl, rfl, rfl, rfl, trivial⟩
  · exact h.elim
theorem ha_X6_goBackWithin : ∀ As w P, T_X6_goBackWithin As w P → qq_wd As ≤ 5 := by
  intro As w P h
  unfold T_X6_goBackWithin at h
  split at h
  · exact Nat.le_of_ble_eq_true rfl
  · exact h.elim
theorem hv_X6_goBackWithin : ∀ As w P, T_X6_goBackWithin As w P → ∃ (k : Nat) (r : List Value) (fs : List Nat), As = .ref k :: r ∧ ww_sh[k]? = some (.inr (6, fs)) := by
  intro As w P h
  unfold T_X6_goBackWithin at h
  split at h
  · exact ⟨_, _, _, rfl, rfl⟩
  · exact h.elim
set_option maxRecDepth 100000 in
theorem M_X6_goBackWithin (l : Launch) : qq_M l ww_T ww_N vwCl ww_sh ww_ro ww_zs yX6_goBackWithin cX6_goBackWithin 5 (some .boolean) (ww_rm 1) T_X6_goBackWithin := by
  refine qq_mk (host := RX7) (is := ki_X6_goBackWithin) (cs := cs_X6_goBackWithin) (by decide) ww_k1 wl_X6 ww_so ww_so2 kc_X6_goBackWithin kv_X6_goBackWithin kg_X6_goBackWithin ?_ ha_X6_goBackWithin bd_X6_goBackWithin
  intro k i q hi hq
  match k, hi, hq with
  | 0, hi, hq => cases hi; cases hq; exact fun p e s m args below meth c D tys tC ad Q pc X hdg => qq_cV (ci := 2) X ww_gd (M_X2_level l) kf_X2_level.1 (Or.inl (ww_a4 (i := 97) (w := Cond.methodLink RX6 136 yX2_level) rfl rfl)) kf_X2_level.2.1 kf_X2_level.2.2.1 kf_X2_level.2.2.2 ⟨by decide, by decide, by decide +kernel⟩ rfl rfl rfl ⟨by decide, by decide⟩ ⟨Nat.le_refl _, Nat.le_refl _⟩ hv_X2_level hdg
  | 1, hi, hq => cases hi; cases hq; exact fun p e s m args below meth c D tys tC ad Q pc X hdg => qq_cV (ci := 5) X ww_gd (M_X5_step l) kf_X5_step.1 (Or.inl (ww_a4 (i := 83) (w := Cond.methodLink RX6 122 yX5_step) rfl rfl)) kf_X5_step.2.1 kf_X5_step.2.2.1 kf_X5_step.2.2.2 ⟨by decide, by decide, by decide +kernel⟩ rfl rfl rfl ⟨by decide, by decide⟩ ⟨Nat.le_refl _, Nat.le_refl _⟩ hv_X5_step hdg
  | 2, hi, hq => cases hi; cases hq; exact fun p e s m args below meth c D tys tC ad Q pc X hdg => qq_cS X ww_gd (M_X7_has l) kf_X7_has.1 (Or.inr ⟨RX7, ww_n4 (i := 84) (w := Cond.methodLinkNest RX6 126 yX7_has RX7) rfl rfl⟩) kf_X7_has.2.1 kf_X7_has.2.2 ⟨by decide, by decide, by decide +kernel⟩ rfl rfl ⟨by decide, by decide⟩ ⟨Nat.le_refl _, Nat.le_refl _⟩ hdg
  | 3, hi, hq => cases hi; cases hq; exact fun p e s m args below meth c D tys tC ad Q pc X hdg => qq_cV (ci := 6) X ww_gd (M_X6_move l) kf_X6_move.1 (Or.inl (ww_a4 (i := 61) (w := Cond.methodLink RX6 75 yX6_move) rfl rfl)) kf_X6_move.2.1 kf_X6_move.2.2.1 kf_X6_move.2.2.2 ⟨by decide, by decide, by decide +kernel⟩ rfl rfl rfl ⟨by decide, by decide⟩ ⟨Nat.le_refl _, Nat.le_refl _⟩ hv_X6_move hdg
  | n + 4, hi, hq => simp [cs_X6_goBackWithin] at hq
abbrev cs_X6_moveOutside : List (Nat × qq_t) := [(3, T_X6_move), (4, T_X2_by), (3, T_X2_whole)]
def T_X6_moveOutside : qq_t := fun As w P => match As with
  | [.ref 5, .int a, .int f] => ∃ d0, (cTp w (qn (w.1 1 10)) (qn (w.1 1 9)) ∧ vp_in a 64 ∧ qn a < qn (w.1 1 10) ∧ vp_in f 13 ∧ bW (cD w) (qn a) (qn f) < 300 ∧ bOut (cD w) (qn a) (qn f) d0) ∧ P none (qq_ui (cMove w a f) 5 14 (nI d0))
  | _ => False
theorem mo_8 {P : Option Value → qq_w → Prop} {K : Nat → qq_L → List Value → qq_w → Prop} (S : qq_Sat ww_sh ww_ro cs_X6_moveOutside (qq_at 75 kd_X6_moveOutside) none P K) {w w1 : qq_w} {a f : Int32} {n fn d0 N M : Nat} (hT : cTp w N M) (ea : a = nI n) (hn : n < N) (ef : f = nI fn) (hf : fn < 13) (hW : bW (cBD w N M) n fn < 300) (ho : bOut (cBD w N M) n fn d0) (hw1 : w1 = cMove w a f) (hq : P none (qq_ui w1 5 14 (nI d0))) :
    ∀ r i, i + r = d0 → ∀ x3 : Int32, x3 = nI i → K 8 [(0, .ref 5), (3, .int x3)] [] w1 := by
  have hN := hT.1.2.1
  have hM8 := hT.2.2.2.1
  have htf : cTf w w1 := by rw [hw1]; exact cTf_tr (cTf_ui (by simp)) (cTf_ui (by simp))
  have e12 : w1.1 5 12 = nI n := by rw [hw1]; exact ea
  have e13 : w1.1 5 13 = nI fn := by rw [hw1]; exact ef
  have q12 : qn (w1.1 5 12) = n := by rw [e12]; exact qn_nI (by omega)
  have q13 : qn (w1.1 5 13) = fn := by rw [e13]; exact qn_nI (by omega)
  obtain ⟨p, m, s1, s2, s3, s4, s5, s6⟩ := hT.2.2.1.1 n hn
  have eOw : bOw (cBD w N M) n = p := by
    show (if n < N then qn (cX w n 0) else 0) = p
    rw [if_pos hn, s3]
    exact qn_nI (by omega)
  have eEn : bEn (cBD w N M) p = m := by
    show (if p < M then qn (w.1 12 p) else 0) = m
    rw [if_pos s1, s4]
    exact qn_nI (by omega)
  obtain ⟨C, eC, hC, hC2⟩ := cD_W (M := M) hT.2.2.2.2.2.2.1 hn hf
  have hC3 : C = bW (cBD w N M) n fn := by
    rw [hC2] at hW ⊢
    split at hW <;> rename_i z
    · rw [if_pos z]
    · omega
  have iW : w1.1 5 12 * 13 + w1.1 5 13 = nI (13 * n + fn) := nI_ml e12 e13 (nI_lit 13)
  have cC : w1.2 24 (w1.1 5 12 * 13 + w1.1 5 13).toNatClampNeg = lN C := by rw [i_c iW (by omega), htf.2]; exact eC
  have hd0 := ho.1
  -- one fact at the ENTER
  have one : ∀ i, i < 13 → ∃ Y, cBy w1 n i fn = lN Y ∧ Y ≤ 2000000000000 ∧ ((¬ Y = 2000000000000 ∧ Y = C) ↔ bW (cBD w N M) (bEn (cBD w N M) (bOw (cBD w N M) n)) i + bL (cBD w N M) n i fn = bW (cBD w N M) n fn) := fun i hi => by
    have hcM : cM w = 169 * N := cM_N hT.1
    obtain ⟨A, B, eA, hA, eB, hB, hBy⟩ := cBy_ok hT.1 (by rw [hcM]; exact hT.2.2.2.2.2.1) hT.2.2.2.2.2.2.2.1 hn hi hf s3 s1 hM8
    have hby : cBy w1 n i fn = cBy w n i fn := by
      unfold cBy cEn cLv
      rw [cX_tf htf, htf.2]
    obtain ⟨B', eB', hB', hB2'⟩ := cD_L (M := M) hT.2.2.2.2.2.1 hn hi hf
    have : B' = B := by
      rw [eB] at eB'
      exact (lL_eq (by omega) (by omega)).mp eB'.symm
    subst this
    have hWe : bW (cBD w N M) m i = lu (w.2 22 (13 * p + i)) := by
      rw [hT.2.2.2.2.2.2.2.2.2 p m i s1 s4 s2 hi]
      show (if m < N ∧ i < 13 then lu (w.2 24 (13 * m + i)) else 10000000000000) = _
      rw [if_pos ⟨s2, hi⟩]
    have hlu : lu (w.2 22 (13 * p + i)) = if A ≤ 1000000000000 then A else 10000000000000 := by
      rw [eA]
      unfold lu
      rw [lq_lN (by omega)]
    have hlc := lcap_le (A + B')
    refine ⟨_, hby.trans hBy, ?_, ?_⟩
    · split <;> omega
    · rw [eOw, eEn, hWe, hlu, hB2', ← hC3]
      have hC4 : C < 300 := by rw [hC3]; exact hW
      by_cases z1 : A ≤ 1000000000000
      · by_cases z2 : B' ≤ 1000000000000
        · rw [if_pos ⟨z1, z2⟩, if_pos z1, if_pos z2]
          unfold lcap
          split <;> omega
        · rw [if_neg (fun y => z2 y.2), if_pos z1, if_neg z2]
          omega
      · rw [if_neg (fun y => z1 y.1), if_neg z1]
        split <;> omega
  intro r
  induction r with
  | zero =>
    intro i hi x3 e3
    have : i = d0 := by omega
    subst this
    obtain ⟨Y, eY, hY, hY2⟩ := one i hd0
    have hs := hY2.mpr ho.2.1
    have q3 : qn x3 = i := by rw [e3]; exact qn_nI (by omega)
    have cY : cBy w1 (qn (w1.1 5 12)) (qn x3) (qn (w1.1 5 13)) = lN Y := by rw [q12, q3, q13]; exact eY
    refine qq_go_ok S (fun pc => Nat.beq pc 8) 60 ?_
    conv => whnf
    refine br_f (i_nge 13 e3 (by omega) (by omega)) ?_
    conv => whnf
    refine ⟨⟨i_in 64 e12 (by omega) (by decide), i_in 13 e3 (by omega) (by decide), i_in 13 e13 (by omega) (by decide), by rw [q12, cX_tf htf]; exact i_in 8 s3 (by omega) (by decide)⟩, ?_⟩
    conv => whnf
    refine br_f (fun z => hs.1 ?_) ?_
    · have z : cBy w1 (qn (w1.1 5 12)) (qn x3) (qn (w1.1 5 13)) = 2000000000000 := lcmp0.mp z
      rw [cY] at z
      exact (lL_eq (b := 2000000000000) (by omega) (by omega)).mp z
    conv => whnf
    refine ⟨i_in 832 iW (by omega) (by decide), ?_⟩
    conv => whnf
    refine br_nf (lcmp0.mpr ?_) ?_
    · show cBy w1 (qn (w1.1 5 12)) (qn x3) (qn (w1.1 5 13)) = w1.2 24 (w1.1 5 12 * 13 + w1.1 5 13).toNatClampNeg
      rw [cY, cC, hs.2]
    conv => whnf
    rw [← e3] at hq
    exact hq
  | succ r ih =>
    intro i hi x3 e3
    obtain ⟨Y, eY, hY, hY2⟩ := one i (by omega)
    have hs : ¬ (¬ Y = 2000000000000 ∧ Y = C) := fun z => ho.2.2 i (by omega) (hY2.mp z)
    have q3 : qn x3 = i := by rw [e3]; exact qn_nI (by omega)
    have cY : cBy w1 (qn (w1.1 5 12)) (qn x3) (qn (w1.1 5 13)) = lN Y := by rw [q12, q3, q13]; exact eY
    refine qq_go_ok S (fun pc => Nat.beq pc 8) 60 ?_
    conv => whnf
    refine br_f (i_nge 13 e3 (by omega) (by omega)) ?_
    conv => whnf
    refine ⟨⟨i_in 64 e12 (by omega) (by decide), i_in 13 e3 (by omega) (by decide), i_in 13 e13 (by omega) (by decide), by rw [q12, cX_tf htf]; exact i_in 8 s3 (by omega) (by decide)⟩, ?_⟩
    conv => whnf
    refine ⟨fun z => ?_, fun z => ?_⟩
    · conv => whnf
      exact qq_wk S (ih (i + 1) (by omega) _ (i_s e3)) ⟨rfl, rfl, trivial⟩
    · have z1 : ¬ Y = 2000000000000 := fun y => z (lcmp0.mpr (by
        show cBy w1 (qn (w1.1 5 12)) (qn x3) (qn (w1.1 5 13)) = 2000000000000
        rw [cY, y]; rfl))
      conv => whnf
      refine ⟨i_in 832 iW (by omega) (by decide), ?_⟩
      conv => whnf
      refine br_nt (fun y => hs ⟨z1, ?_⟩) ?_
      · have y := lcmp0.mp y
        have y : cBy w1 (qn (w1.1 5 12)) (qn x3) (qn (w1.1 5 13)) = w1.2 24 (w1.1 5 12 * 13 + w1.1 5 13).toNatClampNeg := y
        rw [cY, cC] at y
        exact (lL_eq (by omega) (by omega)).mp y
      conv => whnf
      exact qq_wk S (ih (i + 1) (by omega) _ (i_s e3)) ⟨rfl, rfl, trivial⟩
set_option maxHeartbeats 4000000 in
set_option maxRecDepth 100000 in
theorem bd_X6_moveOutside : ∀ As w P K, qq_Sat ww_sh ww_ro cs_X6_moveOutside (qq_at 75 kd_X6_moveOutside) none P K → T_X6_moveOutside As w P → K 0 (lv_args 0 As) [] w := by
  intro As w P K S h
  unfold T_X6_moveOutside at h
  split at h
  · rename_i a f
    obtain ⟨d0, ⟨hT, hp, hn, hp2, hW, ho⟩, hq⟩ := h
    obtain ⟨ea, ha⟩ := qn_eq hp (by decide)
    obtain ⟨ef, hf⟩ := qn_eq hp2 (by decide)
    refine qq_go_ok S (fun pc => Nat.beq pc 8) 60 ?_
    conv => whnf
    exact qq_wk S (mo_8 S (w := w) (w1 := cMove w a f) hT ea hn ef hf hW ho rfl hq d0 0 (Nat.zero_add _) _ rfl) ⟨rfl, rfl, trivial⟩
  · exact h.elim
theorem ha_X6_moveOutside : ∀ As w P, T_X6_moveOutside As w P → qq_wd As ≤ 6 := by
  intro As w P h
  unfold T_X6_moveOutside at h
  split at h
  · exact Nat.le_of_ble_eq_true rfl
  · exact h.elim
theorem hv_X6_moveOutside : ∀ As w P, T_X6_moveOutside As w P → ∃ (k : Nat) (r : List Value) (fs : List Nat), As = .ref k :: r ∧ ww_sh[k]? = some (.inr (6, fs)) := by
  intro As w P h
  unfold T_X6_moveOutside at h
  split at h
  · exact ⟨_, _, _, rfl, rfl⟩
  · exact h.elim
set_option maxRecDepth 100000 in
theorem M_X6_moveOutside (l : Launch) : qq_M l ww_T ww_N vwCl ww_sh ww_ro ww_zs yX6_moveOutside cX6_moveOutside 6 none (ww_rm 3) T_X6_moveOutside := by
  refine qq_mk (host := RX7) (is := ki_X6_moveOutside) (cs := cs_X6_moveOutside) (by decide) ww_k1 wl_X6 ww_so ww_so2 kc_X6_moveOutside kv_X6_moveOutside kg_X6_moveOutside ?_ ha_X6_moveOutside bd_X6_moveOutside
  intro k i q hi hq
  match k, hi, hq with
  | 0, hi, hq => cases hi; cases hq; exact fun p e s m args below meth c D tys tC ad Q pc X hdg => qq_cV (ci := 6) X ww_gd (M_X6_move l) kf_X6_move.1 (Or.inl (ww_a4 (i := 61) (w := Cond.methodLink RX6 75 yX6_move) rfl rfl)) kf_X6_move.2.1 kf_X6_move.2.2.1 kf_X6_move.2.2.2 ⟨by decide, by decide, by decide +kernel⟩ rfl rfl rfl ⟨by decide, by decide⟩ ⟨Nat.le_refl _, Nat.le_refl _⟩ hv_X6_move hdg
  | 1, hi, hq => cases hi; cases hq; exact fun p e s m args below meth c D tys tC ad Q pc X hdg => qq_cV (ci := 2) X ww_gd (M_X2_by l) kf_X2_by.1 (Or.inl (ww_a4 (i := 65) (w := Cond.methodLink RX6 78 yX2_by) rfl rfl)) kf_X2_by.2.1 kf_X2_by.2.2.1 kf_X2_by.2.2.2 ⟨by decide, by decide, by decide +kernel⟩ rfl rfl rfl ⟨by decide, by decide⟩ ⟨Nat.le_refl _, Nat.le_refl _⟩ hv_X2_by hdg
  | 2, hi, hq => cases hi; cases hq; exact fun p e s m args below meth c D tys tC ad Q pc X hdg => qq_cV (ci := 2) X ww_gd (M_X2_whole l) kf_X2_whole.1 (Or.inl (ww_a4 (i := 56) (w := Cond.methodLink RX6 45 yX2_whole) rfl rfl)) kf_X2_whole.2.1 kf_X2_whole.2.2.1 kf_X2_whole.2.2.2 ⟨by decide, by decide, by decide +kernel⟩ rfl rfl rfl ⟨by decide, by decide⟩ ⟨Nat.le_refl _, Nat.le_refl _⟩ hv_X2_whole hdg
  | n + 3, hi, hq => simp [cs_X6_moveOutside] at hq
