/-- the program is well made, as far as turns ask -/
def cPW (w : qq_w) (N : Nat) : Prop := w.1 1 10 = nI N ∧ N ≤ 64 ∧ (∀ c, c < N → cX w c 1 = 9 → ∃ p r l, p < 8 ∧ r < N ∧ l + 1 < N ∧ cX w c 5 = nI p ∧ cX w c 7 = nI r ∧ w.1 12 p = nI l ∧ cX w r 1 = 10 ∧ cX w l 1 = 0 ∧ cX w (l + 1) 1 = 1) ∧ ∀ n t, n < N → lb (w.2 17 n) t = true → t < N
theorem cPW_congr {w w1 : qq_w} {N : Nat} (h1 : w1.1 1 = w.1 1) (h12 : w1.1 12 = w.1 12) (h13 : w1.1 13 = w.1 13) (h17 : w1.2 17 = w.2 17) (h : cPW w N) : cPW w1 N := by
  unfold cPW cX at *
  rw [h1, h12, h13, h17]
  exact h
theorem cPW_SW {w : qq_w} {N : Nat} (h : cPW w N) (hfs : ∀ j, fs (w.1 19 j)) : cSW w := by
  obtain ⟨eN, hN, hc, -⟩ := h
  refine ⟨i_in 65 eN (by omega) (by decide), hfs, fun c hcN h9 => ?_⟩
  rw [eN, qn_nI (by omega)] at hcN
  obtain ⟨p, r, l, a1, a2, a3, a4, a5, a6, a7, a8, a9⟩ := hc c hcN h9
  refine ⟨⟨p, r, l, a1, by omega, by omega, ?_, ?_, ?_, a4, a5, a6⟩, r, by omega, a5, a7⟩
  · rintro rfl
    exact absurd (a7.symm.trans h9) (by decide)
  · rintro rfl
    exact absurd (a7.symm.trans a8) (by decide)
  · rintro rfl
    exact absurd (a7.symm.trans a9) (by decide)
/-- rows of 'reach' beyond the nodes are empty -/
def cRB (w : qq_w) (N : Nat) : Prop := ∀ j e, j < 832 → bt (w.1 20 j) e = true → j < 13 * N
/-- a solving under way -/
def cUW (w : qq_w) (N t f : Nat) : Prop := cPW w N ∧ (∀ j, fs (w.1 19 j)) ∧ cW w f ∧ w.1 3 6 = nI t ∧ t ≤ f ∧ cRB w N
def cTurn (w w' : qq_w) : Prop := ∃ t f c, w.1 3 6 = nI t ∧ t < f ∧ cW w f ∧ w.1 21 t = nI c ∧ c < 10816 ∧ sAdd (qq_ui w 3 6 (nI (t + 1))) w' (cStep w (c / 169) (c / 13 % 13) (c % 13))
def cRun : Nat → qq_w → qq_w → Prop
  | 0, w, w' => w' = w
  | k + 1, w, w' => ∃ w1, cRun k w w1 ∧ cTurn w1 w'
theorem cStep_row {w : qq_w} {N n d e j g : Nat} (h : cPW w N) (hn : n < N) (hd : d < 13) (hs : cStep w n d e j g) : j < 13 * N := by
  obtain ⟨eN, hN, hc, hl⟩ := h
  rcases hs with ⟨h9, z⟩ | ⟨-, z⟩ | ⟨-, -, t, z1, z2, -⟩
  · obtain ⟨p, r, l, a1, a2, a3, a4, a5, a6, -⟩ := hc n hn h9
    rcases z with ⟨z, -⟩ | ⟨z1, z2, -⟩
    · have a5 : w.1 13 (10 * n + 7) = nI r := a5
      rw [a5, qn_nI (by omega)] at z
      omega
    · have a4 : w.1 13 (10 * n + 5) = nI p := a4
      rw [a4, qn_nI (by omega), a6, qn_nI (by omega)] at z2
      omega
  · obtain ⟨c, d', z1, z2, z3, z4, z5, -⟩ := z
    rw [eN, qn_nI (by omega)] at z1
    obtain ⟨p, r, l, a1, a2, a3, a4, a5, a6, -⟩ := hc c z1 z2
    have a5 : w.1 13 (10 * c + 7) = nI r := a5
    rw [a5, qn_nI (by omega)] at z5
    omega
  · have := hl n t hn z1
    omega
theorem cW_gone {w : qq_w} {f : Nat} {y : Int32} (h : cW w f) : cW (qq_ui w 3 6 y) f := h
theorem cTurn_UW {w w' : qq_w} {N t f : Nat} (h : cUW w N t f) (ht : cTurn w w') : t < f ∧ ∃ f', f ≤ f' ∧ cUW w' N (t + 1) f' := by
  obtain ⟨hP, hfs, hW, hg, hle, hB⟩ := h
  obtain ⟨t', f', c, a1, a2, a3, a4, a5, a6⟩ := ht
  have lf := WL_le hW.2
  have lf' := WL_le a3.2
  have e1 : t' = t := (nI_eq (by omega) (by omega)).mp (a1.symm.trans hg)
  have e2 : f' = f := (nI_eq (by omega) (by omega)).mp (a3.1.symm.trans hW.1)
  subst e1; subst e2
  obtain ⟨f2, b1, b2, b3⟩ := a6.1.2.2 f' (cW_gone hW)
  have o : ∀ q, q ∉ [3, 20, 21] → w'.1 q = w.1 q := fun q hq => by
    rw [a6.1.1.2 q hq]
    have : q ≠ 3 := fun z => hq (by simp [z])
    simp only [qq_ui, va_up, this, if_false]
  have o2 : w'.2 = w.2 := a6.1.1.1
  have hcR : cR w c := by
    obtain ⟨c2, z1, z2⟩ := hW.2.2.1 t' a2
    have := hW.2.1 c2 z1
    have : c2 = c := (nI_eq (by omega) (by omega)).mp (z2.symm.trans a4)
    exact this ▸ z1
  have hn : c / 169 < N := by
    have := hB (c / 13) (c % 13) (by omega) hcR.2
    omega
  refine ⟨a2, f2, b1, cPW_congr (o 1 (by simp)) (o 12 (by simp)) (o 13 (by simp)) (by rw [o2]) hP, fun j => by rw [o 19 (by simp)]; exact hfs j, b2, ?_, by omega, fun j e hj he => ?_⟩
  · rw [a6.1.2.1 6 (by decide)]
    rfl
  · rcases (a6.2 j e).mp he with z | z
    · exact hB j e hj z
    · exact cStep_row hP hn (by omega) z
theorem cRun_UW {w : qq_w} {N t f : Nat} (h : cUW w N t f) : ∀ k w', cRun k w w' → ∃ f', f ≤ f' ∧ cUW w' N (t + k) f'
  | 0, w', hr => by
    have hr : w' = w := hr
    subst hr
    exact ⟨f, Nat.le_refl f, h⟩
  | k + 1, w', hr => by
    obtain ⟨w1, h1, h2⟩ := hr
    obtain ⟨f1, a1, a2⟩ := cRun_UW h k w1 h1
    obtain ⟨-, f2, b1, b2⟩ := cTurn_UW a2 h2
    exact ⟨f2, by omega, b2⟩
abbrev cs_X5_goTurns : List (Nat × qq_t) := [(1, T_X5_start), (2, T_J9_min_7cf53), (4, T_X5_goOn)]
/-- a solving that begins, or goes on -/
def cFrom (w : qq_w) (N : Nat) (w0 : qq_w) : Prop := (¬ w.1 3 7 = 0 ∧ w0 = w) ∨ (w.1 3 7 = 0 ∧ cStart w N w0)
def cSolve (w : qq_w) (N n k : Nat) (w' : qq_w) : Prop := ∃ w0, cFrom w N w0 ∧ cRun k w0 w' ∧ k ≤ n ∧ (k = n ∨ w'.1 3 6 = w'.1 3 5)
def cMay (w : qq_w) (N : Nat) : Prop := cPW w N ∧ (∀ n, n < N → cFN w n) ∧ (∀ n p f x, n < N → p < 3 → f < 13 → cTgt w n p (nI f) x → fs x) ∧ (∀ j, fs (w.1 19 j)) ∧ (∃ l, l < N ∧ w.1 12 0 = nI l) ∧ (w.1 3 7 = 0 → w.1 3 5 = 0 ∧ w.1 3 6 = 0) ∧ (¬ w.1 3 7 = 0 → ∃ t f, cUW w N t f)
theorem cStart_UW {w w0 : qq_w} {N : Nat} (h : cMay w N) (h7 : w.1 3 7 = 0) (hs : cStart w N w0) : ∃ f, cUW w0 N 0 f := by
  obtain ⟨hP, -, -, -, ⟨l, hl, el⟩, h0, -⟩ := h
  obtain ⟨a1, a2, a3, a4, a5, ⟨f, hf⟩, a7⟩ := hs
  refine ⟨f, cPW_congr (a1.2 1 (by simp)) (a1.2 12 (by simp)) (a1.2 13 (by simp)) (by rw [a1.1]) hP, a4, hf, ?_, Nat.zero_le f, fun j e hj he => ?_⟩
  · rw [a2 6 (by decide) (by decide)]
    exact (h0 h7).2
  · obtain ⟨z1, z2, -⟩ := (a7 j e hj).mp he
    have := hP.2.1
    rw [el, qn_nI (by omega)] at z2
    omega
def T_X5_goTurns : qq_t := fun As w P => match As with
  | [.ref 3, .int a] => (vp_in a 20001 ∧ ∃ N, cMay w N) ∧ ∀ N k w', cMay w N → cSolve w N (qn a) k w' → P (some (.int (nI k))) w'
  | _ => False
theorem lp_goTurns {P : Option Value → qq_w → Prop} {K : Nat → qq_L → List Value → qq_w → Prop} (S : qq_Sat ww_sh ww_ro cs_X5_goTurns (qq_at 91 kd_X5_goTurns) (some .int) P K) {w w0 : qq_w} {N n T t0 f0 : Nat} {x2 : Int32} (hm : cMay w N) (h0 : cFrom w N w0) (hU : cUW w0 N t0 f0) (hn : n ≤ 20000) (hT : T = n ∨ (T = 10816 ∧ 10816 ≤ n)) (e2 : x2 = nI T)
    (hq : ∀ N k w', cMay w N → cSolve w N n k w' → P (some (.int (nI k))) w') :
    ∀ m i, i + m = T → ∀ (x3 : Int32) (w1 : qq_w), x3 = nI i → cRun i w0 w1 → K 21 [(0, .ref 3), (2, .int x2), (3, .int x3)] [] w1 := by
  intro m
  induction m with
  | zero =>
    intro i hi x3 w1 e3 h1
    have : i = T := by omega
    subst this
    obtain ⟨f1, b1, b2⟩ := cRun_UW hU i w1 h1
    refine qq_go_ok S (fun pc => Nat.beq pc 21) 60 ?_
    conv => whnf
    refine br_t (i_ge' e3 e2 (by omega) (by omega)) ?_
    conv => whnf
    rw [e2]
    refine hq N i w1 hm ⟨w0, h0, h1, by omega, ?_⟩
    rcases hT with z | ⟨z, -⟩
    · exact Or.inl z
    · refine Or.inr ?_
      have := WL_le b2.2.2.1.2
      have := b2.2.2.2.2.1
      rw [b2.2.2.2.1, b2.2.2.1.1]
      congr 1
      omega
  | succ m ih =>
    intro i hi x3 w1 e3 h1
    obtain ⟨f1, b1, b2⟩ := cRun_UW hU i w1 h1
    have b2' := b2
    obtain ⟨hP, hfs, hW, hg, hle, hB⟩ := b2
    have lf := WL_le hW.2
    refine qq_go_ok S (fun pc => Nat.beq pc 21) 80 ?_
    conv => whnf
    refine br_f (i_lt' e3 e2 (by omega) (by omega)) ?_
    conv => whnf
    refine ⟨fun h => ?_, fun h => ?_⟩
    · have h : w1.1 3 6 < w1.1 3 5 := h
      rw [hg, hW.1, nI_ltI (by omega) (by omega)] at h
      conv => whnf
      refine ⟨i_in 10816 hg (by omega) (by decide), ?_⟩
      conv => whnf
      obtain ⟨c, hcR, ec⟩ := hW.2.2.1 (t0 + i) h
      have hc := hW.2.1 c hcR
      have ec' : w1.1 21 (w1.1 3 6).toNatClampNeg = nI c := by rw [i_c hg (by omega)]; exact ec
      have hnc : c / 169 < N := by
        have := hB (c / 13) (c % 13) (by omega) hcR.2
        omega
      have hN := hP.2.1
      have d1 : w1.1 21 (w1.1 3 6).toNatClampNeg / 169 = nI (c / 169) := by
        have : w1.1 21 (w1.1 3 6).toNatClampNeg / nI 169 = nI (c / 169) := by rw [ec']; exact pk_div (by omega) (by omega) (by omega)
        exact this
      have d2 : w1.1 21 (w1.1 3 6).toNatClampNeg / 13 = nI (c / 13) := by
        have : w1.1 21 (w1.1 3 6).toNatClampNeg / nI 13 = nI (c / 13) := by rw [ec']; exact pk_div (by omega) (by omega) (by omega)
        exact this
      have d3 : w1.1 21 (w1.1 3 6).toNatClampNeg / 13 - w1.1 21 (w1.1 3 6).toNatClampNeg / 13 / 13 * 13 = nI (c / 13 % 13) := by
        rw [d2]
        have : nI (c / 13) - nI (c / 13) / nI 13 * nI 13 = nI (c / 13 % 13) := pk_rem (by omega) (by omega) (by omega)
        exact this
      have d4 : w1.1 21 (w1.1 3 6).toNatClampNeg - w1.1 21 (w1.1 3 6).toNatClampNeg / 13 * 13 = nI (c % 13) := by
        have : w1.1 21 (w1.1 3 6).toNatClampNeg - w1.1 21 (w1.1 3 6).toNatClampNeg / nI 13 * nI 13 = nI (c % 13) := by rw [ec']; exact pk_rem (by omega) (by omega) (by omega)
        exact this
      refine ⟨by decide, ?_⟩
      conv => whnf
      refine ⟨by decide, ?_⟩
      conv => whnf
      refine ⟨by decide, ?_⟩
      conv => whnf
      refine ⟨by decide, ?_⟩
      conv => whnf
      have hg1 : w1.1 3 6 + 1 = nI (t0 + i + 1) := i_s hg
      have eN : w1.1 1 10 = nI N := hP.1
      refine ⟨⟨⟨i_in 64 d1 (by omega) (by decide), ?_, i_in 13 d3 (by omega) (by decide), i_in 13 d4 (by omega) (by decide), cPW_SW (N := N) hP hfs⟩, ⟨f1, cW_gone hW⟩⟩, fun w2 h2 => ?_⟩
      · have : qn (w1.1 21 (w1.1 3 6).toNatClampNeg / 169) < qn (w1.1 1 10) := by rw [d1, eN, qn_nI (by omega), qn_nI (by omega)]; exact hnc
        exact this
      conv => whnf
      refine qq_wk S (ih (i + 1) (by omega) _ w2 (i_s e3) ⟨w1, h1, t0 + i, f1, c, hg, h, hW, ec, hc, ?_⟩) ⟨rfl, rfl, rfl, trivial⟩
      have h2 : sAdd (qq_ui w1 3 6 (w1.1 3 6 + 1)) w2 (cStep (qq_ui w1 3 6 (w1.1 3 6 + 1)) (qn (w1.1 21 (w1.1 3 6).toNatClampNeg / 169)) (qn (w1.1 21 (w1.1 3 6).toNatClampNeg / 13 - w1.1 21 (w1.1 3 6).toNatClampNeg / 13 / 13 * 13)) (qn (w1.1 21 (w1.1 3 6).toNatClampNeg - w1.1 21 (w1.1 3 6).toNatClampNeg / 13 * 13))) := h2
      rw [hg1, d1, d3, d4, qn_nI (by omega), qn_nI (by omega), qn_nI (by omega)] at h2
      exact h2
    · have h : ¬ w1.1 3 6 < w1.1 3 5 := h
      rw [hg, hW.1, nI_ltI (by omega) (by omega)] at h
      conv => whnf
      rw [e3]
      refine hq N i w1 hm ⟨w0, h0, h1, by omega, Or.inr ?_⟩
      rw [hg, hW.1]
      congr 1
      omega
set_option maxHeartbeats 4000000 in
set_option maxRecDepth 100000 in
theorem bd_X5_goTurns : ∀ As w P K, qq_Sat ww_sh ww_ro cs_X5_goTurns (qq_at 91 kd_X5_goTurns) (some .int) P K → T_X5_goTurns As w P → K 0 (lv_args 0 As) [] w := by
  intro As w P K S h
  unfold T_X5_goTurns at h
  split at h
  · rename_i a
    obtain ⟨⟨hp, N, hm⟩, hq⟩ := h
    obtain ⟨ea, ha⟩ := qn_eq hp (by decide)
    have tail : ∀ w0 t0 f0, cFrom w N w0 → cUW w0 N t0 f0 → ∀ x2 : Int32, x2 = (if (10816 : Int32) < a then 10816 else a) → K 21 [(0, .ref 3), (2, .int x2), (3, .int 0)] [] w0 := by
      intro w0 t0 f0 h0 hU x2 e2
      by_cases z : 10816 < qn a
      · have : (10816 : Int32) < a := by rw [ea]; exact nI_lt (a := 10816) z (by omega)
        rw [if_pos this] at e2
        exact lp_goTurns S hm h0 hU (by omega) (Or.inr ⟨rfl, by omega⟩) e2 hq 10816 0 rfl _ w0 rfl rfl
      · have : ¬ (10816 : Int32) < a := by rw [ea]; exact nI_nlt (a := 10816) (by omega) (by omega)
        rw [if_neg this, ea] at e2
        exact lp_goTurns S hm h0 hU (by omega) (Or.inl rfl) e2 hq (qn a) 0 (Nat.zero_add _) _ w0 rfl rfl
    refine qq_go_ok S (fun pc => Nat.beq pc 21) 60 ?_
    conv => whnf
    refine ⟨fun h => ?_, fun h => ?_⟩
    · conv => whnf
      have h : ¬ w.1 3 7 = 0 := h
      obtain ⟨t, f, hU⟩ := hm.2.2.2.2.2.2 h
      exact qq_wk S (tail w t f (Or.inl ⟨h, rfl⟩) hU _ rfl) ⟨rfl, rfl, rfl, trivial⟩
    · have h : w.1 3 7 = 0 := h
      conv => whnf
      obtain ⟨hP, hfn, hfs, h19, ⟨l, hl, el⟩, h0, -⟩ := id hm
      have qN : qn (w.1 1 10) = N := by rw [hP.1]; exact qn_nI (by have := hP.2.1; omega)
      have hN := hP.2.1
      refine ⟨⟨i_in 65 hP.1 (by omega) (by decide), by rw [qN]; exact hfn, by rw [qN]; exact hfs, h19, (h0 h).1, i_in 64 el (by omega) (by decide)⟩, fun w0 hs => ?_⟩
      conv => whnf
      rw [qN] at hs
      obtain ⟨f, hU⟩ := cStart_UW hm h hs
      exact qq_wk S (tail w0 0 f (Or.inr ⟨h, hs⟩) hU _ rfl) ⟨rfl, rfl, rfl, trivial⟩
  · exact h.elim
theorem ha_X5_goTurns : ∀ As w P, T_X5_goTurns As w P → qq_wd As ≤ 5 := by
  intro As w P h
  unfold T_X5_goTurns at h
  split at h
  · exact Nat.le_of_ble_eq_true rfl
  · exact h.elim
theorem hv_X5_goTurns : ∀ As w P, T_X5_goTurns As w P → ∃ (k : Nat) (r : List Value) (fs : List Nat), As = .ref k :: r ∧ ww_sh[k]? = some (.inr (5, fs)) := by
  intro As w P h
  unfold T_X5_goTurns at h
  split at h
  · exact ⟨_, _, _, rfl, rfl⟩
  · exact h.elim
set_option maxRecDepth 100000 in
theorem M_X5_goTurns (l : Launch) : qq_M l ww_T ww_N vwCl ww_sh ww_ro ww_zs yX5_goTurns cX5_goTurns 5 (some .int) (ww_rm 5) T_X5_goTurns := by
  refine qq_mk (host := RX7) (is := ki_X5_goTurns) (cs := cs_X5_goTurns) (by decide) ww_k1 wl_X5 ww_so ww_so2 kc_X5_goTurns kv_X5_goTurns kg_X5_goTurns ?_ ha_X5_goTurns bd_X5_goTurns
  intro k i q hi hq
  match k, hi, hq with
  | 0, hi, hq => cases hi; cases hq; exact fun p e s m args below meth c D tys tC ad Q pc X hdg => qq_cV (ci := 5) X ww_gd (M_X5_start l) kf_X5_start.1 (Or.inl (ww_a3 (i := 46) (w := Cond.methodLink RX5 40 yX5_start) rfl rfl)) kf_X5_start.2.1 kf_X5_start.2.2.1 kf_X5_start.2.2.2 ⟨by decide, by decide, by decide +kernel⟩ rfl rfl rfl ⟨by decide, by decide⟩ ⟨Nat.le_refl _, Nat.le_refl _⟩ hv_X5_start hdg
  | 1, hi, hq => cases hi; cases hq; exact cf_mmin (by decide) (ww_a3 (i := 72) (w := Cond.methodLink RX5 43 Lib.Math.min.name) rfl rfl)
  | 2, hi, hq => cases hi; cases hq; exact fun p e s m args below meth c D tys tC ad Q pc X hdg => qq_cV (ci := 5) X ww_gd (M_X5_goOn l) kf_X5_goOn.1 (Or.inl (ww_a3 (i := 73) (w := Cond.methodLink RX5 49 yX5_goOn) rfl rfl)) kf_X5_goOn.2.1 kf_X5_goOn.2.2.1 kf_X5_goOn.2.2.2 ⟨by decide, by decide, by decide +kernel⟩ rfl rfl rfl ⟨by decide, by decide⟩ ⟨Nat.le_refl _, Nat.le_refl _⟩ hv_X5_goOn hdg
  | n + 3, hi, hq => simp [cs_X5_goTurns] at hq
