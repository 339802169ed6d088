theorem in_of {a : Int32} (n : Nat) (hn : n + 1 < 2 ^ 31) (h0 : 0 ≤ a) (h1 : a ≤ nI n) : vp_in a (n + 1) := by
  have h0 : 0 ≤ a.toInt := i_le.mp h0
  rw [i_le, nI_toInt (by omega)] at h1
  exact vp_in_iff.mpr ⟨h0, by omega⟩
/-- rows of the reference's paths beyond the nodes are empty; a solving of it under way -/
def mRB (w : qq_w) (N : Nat) : Prop := ∀ j e, j < 832 → bt (w.1 56 j) e = true → j < 13 * N
def mUW (w : qq_w) (N t f : Nat) : Prop := mPW w N ∧ mSI w ∧ mW w f ∧ w.1 8 33 = nI t ∧ t ≤ f ∧ mRB w N
def mTurn (w w' : qq_w) : Prop := ∃ t f c, w.1 8 33 = nI t ∧ t < f ∧ mW w f ∧ w.1 58 t = nI c ∧ c < 10816 ∧ mGo (qq_ui w 8 33 (nI (t + 1))) w' (mStN w (c / 169) (c / 13 % 13) (c % 13)) (mStM w (c / 169) (c / 13 % 13) (c % 13))
def mRun : Nat → qq_w → qq_w → Prop
  | 0, w, w' => w' = w
  | k + 1, w, w' => ∃ w1, mRun k w w1 ∧ mTurn w1 w'
theorem mStN_row {w : qq_w} {N n d f j e : Nat} (h : mPW w N) (hn : n < N) (hd : d < 13) (hs : mStN w n d f j e) : j < 13 * N := by
  obtain ⟨eN, hN, hc, ⟨E, hE, eE, hed⟩, -, -⟩ := h
  rcases hs with ⟨-, c, g, d', z1, z2, z3, z4, z5, z6, z7, -⟩ | ⟨h9, z⟩ | ⟨-, -, k, z1, z2, z3, -⟩
  · rw [eN, qn_nI (by omega)] at z1
    obtain ⟨p, r, l, a1, a2, a3, a4, a5, a6, -⟩ := hc c z1 z2
    rw [a5, qn_nI (by omega)] at z7
    omega
  · obtain ⟨p, r, l, a1, a2, a3, a4, a5, a6, -⟩ := hc n hn h9
    rcases z with ⟨z, -⟩ | ⟨g, z1, z2, ⟨z3, -⟩ | ⟨h', d', z3, z4, z5, z6, -⟩⟩
    · rw [a5, qn_nI (by omega)] at z
      omega
    · rw [a4, qn_nI (by omega), a6, qn_nI (by omega)] at z3
      omega
    · rw [a5, qn_nI (by omega)] at z6
      omega
  · rw [eE, qn_nI (by omega)] at z1
    obtain ⟨a, b, ha, hb, ea, eb⟩ := hed k z1
    rw [eb, qn_nI (by omega)] at z3
    omega
theorem mW_gone {w : qq_w} {f : Nat} {y : Int32} (h : mW w f) : mW (qq_ui w 8 33 y) f := h
theorem mSI_gone {w : qq_w} {y : Int32} (h : mSI w) : mSI (qq_ui w 8 33 y) := h
theorem mPW_gone {w : qq_w} {N : Nat} {y : Int32} (h : mPW w N) : mPW (qq_ui w 8 33 y) N := h
theorem mTurn_UW {w w' : qq_w} {N t f : Nat} (h : mUW w N t f) (ht : mTurn w w') : t < f ∧ ∃ f', f ≤ f' ∧ mUW w' N (t + 1) f' := by
  obtain ⟨hP, hSI, hW, hg, hle, hB⟩ := h
  obtain ⟨t', f', c, a1, a2, a3, a4, a5, a6⟩ := ht
  have lf := WL_le hW.2.2
  have lf' := WL_le a3.2.2
  have e1 : t' = t := (nI_eq (by omega) (by omega)).mp (a1.symm.trans hg)
  have e2 : f' = f := (nI_eq (by omega) (by omega)).mp (a3.1.symm.trans hW.1)
  subst e1; subst e2
  obtain ⟨f2, b1, b2, b3⟩ := a6.2.2.1 f' (mW_gone hW)
  have hcR : mR w c := by
    obtain ⟨c2, z1, z2⟩ := hW.2.2.2.1 t' a2
    have := hW.2.2.1 c2 z1
    have : c2 = c := (nI_eq (by omega) (by omega)).mp (z2.symm.trans a4)
    exact this ▸ z1
  have hn : c / 169 < N := by
    have := hB (c / 13) (c % 13) (by omega) hcR.2
    omega
  refine ⟨a2, f2, b1, mPW_go a6 (mPW_gone hP), a6.2.2.2.1 (mSI_gone hSI), b2, ?_, by omega, fun j e hj he => ?_⟩
  · rw [a6.2.1 33 (by decide) (by decide) (by decide)]
    rfl
  · rcases (a6.2.2.2.2.1 j e).mp he with z | z
    · exact hB j e hj z
    · exact mStN_row hP hn (by omega) z
theorem mRun_UW {w : qq_w} {N t f : Nat} (h : mUW w N t f) : ∀ k w', mRun k w w' → ∃ f', f ≤ f' ∧ mUW w' N (t + k) f'
  | 0, w', e => ⟨f, Nat.le_refl f, by
    have e : w' = w := e
    rw [e]
    exact h⟩
  | k + 1, w', ⟨w1, h1, h2⟩ => by
    obtain ⟨f1, a1, a2⟩ := mRun_UW h k w1 h1
    obtain ⟨-, f2, b1, b2⟩ := mTurn_UW a2 h2
    exact ⟨f2, by omega, b2⟩
abbrev cs_X8_solve : List (Nat × qq_t) := [(3, T_X8_in), (1, T_X8_isWhole), (1, T_X8_begins), (2, T_X8_goesOn)]
def mFrom (w w0 : qq_w) : Prop := (¬ w.1 8 27 = 0 ∧ w0 = w) ∨ (w.1 8 27 = 0 ∧ mStart w w0)
def mSolve (w : qq_w) (n k : Nat) (w' : qq_w) : Prop := ∃ w0 w1, mFrom w w0 ∧ mRun k w0 w1 ∧ k ≤ n ∧ (k = n ∨ w1.1 8 33 = w1.1 8 32) ∧ w' = qq_ui w1 8 28 (w1.1 8 28 + nI k)
def mMay (w : qq_w) (N : Nat) : Prop := mPW w N ∧ (∀ n, n < N → mRo w n) ∧ (0 < w.1 8 2 → ∃ l, l < N ∧ w.1 39 0 = nI l) ∧ (¬ w.1 8 27 = 0 → ∃ t f, mUW w N t f)
theorem mStart_UW {w w0 : qq_w} {N l : Nat} (h : mPW w N) (el : w.1 39 0 = nI l) (hl : l < N) (hs : mStart w w0) : ∃ f, mUW w0 N 0 f := by
  obtain ⟨a1, a2, a3, a4, a5, a6, a7, ⟨f, hf⟩, a8, a9⟩ := hs
  have hN := h.2.1
  refine ⟨f, ?_, a7, hf, a6, Nat.zero_le f, fun j e hj he => ?_⟩
  · have o : ∀ q, q ∉ [8, 56, 57, 58] → w0.1 q = w.1 q := a1.2
    have s1 : ∀ k, k ∈ [37, 38, 41, 43, 44, 45, 46, 47, 48, 50, 51, 54] → w0.1 k = w.1 k := fun k hk => o k (fun z => by simp at hk z; omega)
    have s2 : w0.1 8 23 = w.1 8 23 := a2 23 (by decide)
    obtain ⟨b1, b2, b3, b4, b5, b6⟩ := h
    refine ⟨by rw [a2 8 (by decide)]; exact b1, b2, ?_, ?_, fun n hn => mFN_congr s1 (b5 n hn), fun n p f x hn hp hf hx => b6 n p f x hn hp hf ((mTgt_congr s1 s2 n p _ x).mp hx)⟩
    · rw [o 39 (by simp), o 40 (by simp), o 43 (by simp), o 47 (by simp), o 49 (by simp)]; exact b3
    · rw [a2 20 (by decide), o 52 (by simp), o 53 (by simp)]; exact b4
  · obtain ⟨z1, z2, -⟩ := (a9 j e hj).mp he
    rw [el, qn_nI (by omega)] at z2
    omega
def T_X8_solve : qq_t := fun As w P => match As with
  | [.ref 8, .int a] => (∃ N, mMay w N) ∧ (¬ (0 ≤ a ∧ a ≤ 20000) → P (some (.int (-1))) w) ∧ ((0 ≤ a ∧ a ≤ 20000) → ¬ mWhole w → P (some (.int (-4))) w) ∧ ((0 ≤ a ∧ a ≤ 20000) → mWhole w → ∀ k w', mSolve w (qn a) k w' → P (some (.int (nI k))) w')
  | _ => False
theorem so_36 {P : Option Value → qq_w → Prop} {K : Nat → qq_L → List Value → qq_w → Prop} (S : qq_Sat ww_sh ww_ro cs_X8_solve (qq_at 95 kd_X8_solve) (some .int) P K) {w w0 : qq_w} {N n t0 f0 : Nat} {x1 : Int32} (h0 : mFrom w w0) (hU : mUW w0 N t0 f0) (hn : n ≤ 20000) (e1 : x1 = nI n)
    (hq : ∀ k w', mSolve w n k w' → P (some (.int (nI k))) w') :
    ∀ m i, i + m = n → ∀ (x2 : Int32) (w1 : qq_w), x2 = nI i → mRun i w0 w1 → K 36 [(0, .ref 8), (1, .int x1), (2, .int x2)] [] w1 := by
  have fin : ∀ i (x2 : Int32) (w1 : qq_w), x2 = nI i → i ≤ n → mRun i w0 w1 → (i = n ∨ w1.1 8 33 = w1.1 8 32) → K 83 [(0, .ref 8), (1, .int x1), (2, .int x2)] [] w1 := by
    intro i x2 w1 e2 hi h1 h2
    refine qq_go_ok S (fun pc => Nat.beq pc 36) 60 ?_
    conv => whnf
    rw [e2]
    exact hq i _ ⟨w0, w1, h0, h1, hi, h2, rfl⟩
  intro m
  induction m with
  | zero =>
    intro i hi x2 w1 e2 h1
    refine qq_go_ok S (fun pc => Nat.beq pc 36 || Nat.beq pc 83) 60 ?_
    conv => whnf
    refine br_t (i_ge' e2 e1 (by omega) (by omega)) ?_
    conv => whnf
    exact qq_wk S (fin i x2 w1 e2 (by omega) h1 (Or.inl (by omega))) ⟨rfl, rfl, rfl, trivial⟩
  | succ m ih =>
    intro i hi x2 w1 e2 h1
    obtain ⟨f1, b1, hP, hSI, hW, hg, hle, hB⟩ := mRun_UW hU i w1 h1
    have lf := WL_le hW.2.2
    have hN := hP.2.1
    refine qq_go_ok S (fun pc => Nat.beq pc 36 || Nat.beq pc 83) 80 ?_
    conv => whnf
    refine br_f (i_lt' e2 e1 (by omega) (by omega)) ?_
    conv => whnf
    refine ⟨fun h => ?_, fun h => ?_⟩
    · have h : w1.1 8 32 ≤ w1.1 8 33 := h
      have : f1 ≤ t0 + i := by
        rcases Nat.lt_or_ge (t0 + i) f1 with z | z
        · exact absurd h (i_lt' hg hW.1 z (by omega))
        · exact z
      conv => whnf
      refine qq_wk S (fin i x2 w1 e2 (by omega) h1 (Or.inr ?_)) ⟨rfl, rfl, rfl, trivial⟩
      rw [hg, hW.1]
      congr 1
      omega
    · have h : ¬ w1.1 8 32 ≤ w1.1 8 33 := h
      have h : t0 + i < f1 := by
        rcases Nat.lt_or_ge (t0 + i) f1 with z | z
        · exact z
        · exact absurd (i_ge' hg hW.1 z (by omega)) h
      conv => whnf
      refine ⟨i_in 10816 hg (by omega) (by decide), ?_⟩
      conv => whnf
      obtain ⟨c, hcR, ec⟩ := hW.2.2.2.1 (t0 + i) h
      have hc := hW.2.2.1 c hcR
      have ec' : w1.1 58 (w1.1 8 33).toNatClampNeg = nI c := by rw [i_c hg (by omega)]; exact ec
      have qc : qn (w1.1 58 (w1.1 8 33).toNatClampNeg) = c := by rw [ec']; exact qn_nI (by omega)
      have hnc : c / 169 < N := by
        have := hB (c / 13) (c % 13) (by omega) hcR.2
        omega
      have hg1 : w1.1 8 33 + 1 = nI (t0 + i + 1) := i_s hg
      have qN : qn (w1.1 8 8) = N := by rw [hP.1]; exact qn_nI (by omega)
      refine ⟨⟨⟨i_in 10816 ec' hc (by decide), ?_, mSI_gone hSI, ?_⟩, ⟨f1, mW_gone hW⟩⟩, fun w2 h2 => ?_⟩
      · show mPW (qq_ui w1 8 33 (w1.1 8 33 + 1)) (qn (w1.1 8 8))
        rw [qN]
        exact mPW_gone hP
      · show qn (w1.1 58 (w1.1 8 33).toNatClampNeg) / 169 < qn (w1.1 8 8)
        rw [qN, qc]
        exact hnc
      conv => whnf
      refine qq_wk S (ih (i + 1) (by omega) _ w2 (i_s e2) ⟨w1, h1, t0 + i, f1, c, hg, h, hW, ec, hc, ?_⟩) ⟨rfl, rfl, rfl, trivial⟩
      have h2 : mGo (qq_ui w1 8 33 (w1.1 8 33 + 1)) w2 (mStN (qq_ui w1 8 33 (w1.1 8 33 + 1)) (qn (w1.1 58 (w1.1 8 33).toNatClampNeg) / 169) (qn (w1.1 58 (w1.1 8 33).toNatClampNeg) / 13 % 13) (qn (w1.1 58 (w1.1 8 33).toNatClampNeg) % 13)) (mStM (qq_ui w1 8 33 (w1.1 8 33 + 1)) (qn (w1.1 58 (w1.1 8 33).toNatClampNeg) / 169) (qn (w1.1 58 (w1.1 8 33).toNatClampNeg) / 13 % 13) (qn (w1.1 58 (w1.1 8 33).toNatClampNeg) % 13)) := h2
      rw [hg1, qc] at h2
      exact h2
set_option maxHeartbeats 4000000 in
set_option maxRecDepth 100000 in
theorem bd_X8_solve : ∀ As w P K, qq_Sat ww_sh ww_ro cs_X8_solve (qq_at 95 kd_X8_solve) (some .int) P K → T_X8_solve As w P → K 0 (lv_args 0 As) [] w := by
  intro As w P K S h
  unfold T_X8_solve at h
  split at h
  · rename_i a
    obtain ⟨⟨N, hm⟩, hq1, hq2, hq3⟩ := h
    obtain ⟨hP, hro, hen, hu⟩ := id hm
    have hN := hP.2.1
    have qN : qn (w.1 8 8) = N := by rw [hP.1]; exact qn_nI (by omega)
    refine qq_go_ok S (fun pc => Nat.beq pc 36) 60 ?_
    conv => whnf
    refine ⟨fun h => ?_, fun h => ?_⟩
    · conv => whnf
      refine br_nt (by decide) ?_
      conv => whnf
      have ha : a = nI (qn a) ∧ qn a ≤ 20000 := by
        obtain ⟨z1, z2⟩ := qn_eq (in_of 20000 (by decide) h.1 h.2) (by decide)
        exact ⟨z1, by omega⟩
      refine ⟨⟨i_in 65 hP.1 (by omega) (by decide), by rw [qN]; exact hro⟩, fun hw => ?_, fun hw => ?_⟩
      · conv => whnf
        refine br_nt (by decide) ?_
        conv => whnf
        have hq3 := hq3 h hw
        refine ⟨fun h7 => ?_, fun h7 => ?_⟩
        · have h7 : ¬ w.1 8 27 = 0 := h7
          conv => whnf
          obtain ⟨t, f, hU⟩ := hu h7
          exact qq_wk S (so_36 S (Or.inl ⟨h7, rfl⟩) hU ha.2 ha.1 hq3 (qn a) 0 (Nat.zero_add _) _ w rfl rfl) ⟨rfl, rfl, rfl, trivial⟩
        · have h7 : w.1 8 27 = 0 := h7
          conv => whnf
          obtain ⟨l, hl, el⟩ := hen hw.1
          refine ⟨i_in 64 el (by omega) (by decide), fun w0 hs => ?_⟩
          conv => whnf
          obtain ⟨f, hU⟩ := mStart_UW hP el hl hs
          exact qq_wk S (so_36 S (Or.inr ⟨h7, hs⟩) hU ha.2 ha.1 hq3 (qn a) 0 (Nat.zero_add _) _ w0 rfl rfl) ⟨rfl, rfl, rfl, trivial⟩
      · conv => whnf
        refine br_nf rfl ?_
        conv => whnf
        exact hq2 h hw
    · conv => whnf
      refine br_nf rfl ?_
      conv => whnf
      exact hq1 h
  · exact h.elim
theorem ha_X8_solve : ∀ As w P, T_X8_solve As w P → qq_wd As ≤ 4 := by
  intro As w P h
  unfold T_X8_solve at h
  split at h
  · exact Nat.le_of_ble_eq_true rfl
  · exact h.elim
theorem hv_X8_solve : ∀ As w P, T_X8_solve As w P → ∃ (k : Nat) (r : List Value) (fs : List Nat), As = .ref k :: r ∧ ww_sh[k]? = some (.inr (8, fs)) := by
  intro As w P h
  unfold T_X8_solve at h
  split at h
  · exact ⟨_, _, _, rfl, rfl⟩
  · exact h.elim
set_option maxRecDepth 100000 in
theorem M_X8_solve (l : Launch) : qq_M l ww_T ww_N vwCl ww_sh ww_ro ww_zs yX8_solve cX8_solve 4 (some .int) (ww_rm 5) T_X8_solve := by
  refine qq_mk (host := RX7) (is := ki_X8_solve) (cs := cs_X8_solve) (by decide) ww_k1 wl_X8 ww_so ww_so2 kc_X8_solve kv_X8_solve kg_X8_solve ?_ ha_X8_solve bd_X8_solve
  intro k i q hi hq
  match k, hi, hq with
  | 0, hi, hq => cases hi; cases hq; exact fun p e s m args below meth c D tys tC ad Q pc X hdg => qq_cS X ww_gd (M_X8_in l) kf_X8_in.1 (Or.inl (ww_a5 (i := 76) (w := Cond.methodLink RX8 105 yX8_in) rfl rfl)) kf_X8_in.2.1 kf_X8_in.2.2 ⟨by decide, by decide, by decide +kernel⟩ rfl rfl ⟨by decide, by decide⟩ ⟨Nat.le_refl _, Nat.le_refl _⟩ hdg
  | 1, hi, hq => cases hi; cases hq; exact fun p e s m args below meth c D tys tC ad Q pc X hdg => qq_cV (ci := 8) X ww_gd (M_X8_isWhole l) kf_X8_isWhole.1 (Or.inl (ww_a5 (i := 214) (w := Cond.methodLink RX8 232 yX8_isWhole) rfl rfl)) kf_X8_isWhole.2.1 kf_X8_isWhole.2.2.1 kf_X8_isWhole.2.2.2 ⟨by decide, by decide, by decide +kernel⟩ rfl rfl rfl ⟨by decide, by decide⟩ ⟨Nat.le_refl _, Nat.le_refl _⟩ hv_X8_isWhole hdg
  | 2, hi, hq => cases hi; cases hq; exact fun p e s m args below meth c D tys tC ad Q pc X hdg => qq_cV (ci := 8) X ww_gd (M_X8_begins l) kf_X8_begins.1 (Or.inl (ww_a5 (i := 218) (w := Cond.methodLink RX8 236 yX8_begins) rfl rfl)) kf_X8_begins.2.1 kf_X8_begins.2.2.1 kf_X8_begins.2.2.2 ⟨by decide, by decide, by decide +kernel⟩ rfl rfl rfl ⟨by decide, by decide⟩ ⟨Nat.le_refl _, Nat.le_refl _⟩ hv_X8_begins hdg
  | 3, hi, hq => cases hi; cases hq; exact fun p e s m args below meth c D tys tC ad Q pc X hdg => qq_cV (ci := 8) X ww_gd (M_X8_goesOn l) kf_X8_goesOn.1 (Or.inl (ww_a5 (i := 230) (w := Cond.methodLink RX8 239 yX8_goesOn) rfl rfl)) kf_X8_goesOn.2.1 kf_X8_goesOn.2.2.1 kf_X8_goesOn.2.2.2 ⟨by decide, by decide, by decide +kernel⟩ rfl rfl rfl ⟨by decide, by decide⟩ ⟨Nat.le_refl _, Nat.le_refl _⟩ hv_X8_goesOn hdg
  | n + 4, hi, hq => simp [cs_X8_solve] at hq
