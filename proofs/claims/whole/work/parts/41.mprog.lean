theorem qq_go_semi {sh : List qq_s} {ro : qq_R} {cs : List (Nat × qq_t)} {cd : Nat → Option qq_I} {rt : Option FieldType} {P : Option Value → qq_w → Prop} {K K0 : Nat → qq_L → List Value → qq_w → Prop} {sp : Nat → Bool} {n : Nat} {pc : Nat} {lv : qq_L} {st : List Value} {w : qq_w} (S : qq_Sat sh ro cs cd rt P K) (h0 : ∀ pc lv st w, K0 pc lv st w → K pc lv st w) (h : qq_go sh ro cs cd rt sp P K0 n pc lv st w) : K pc lv st w := by
  obtain ⟨q, hq, h⟩ := qq_some_inv h
  exact S.1 _ (qq_run_ok S h0 n) pc lv st w q hq h
abbrev cs_X8_call : List (Nat × qq_t) := [(2, T_X8_isProcedure), (3, T_X8_isVariable), (2, T_X8_meets), (3, T_X8_adds)]
def H_X8_call (P : Option Value → qq_w → Prop) (pc : Nat) (lv : qq_L) (st : List Value) (w : qq_w) : Prop := pc = 128 ∧ st = [] ∧ ∃ c, qq_le [(0, .ref 8), (5, .int c), (7, .int 0)] lv ∧ vp_in c 64 ∧ ∀ w' : qq_w, (w'.2 = w.2 ∧ (∀ q, q ≠ 8 → q ≠ 51 → w'.1 q = w.1 q) ∧ w'.1 8 = upd (w.1 8) 9 (w.1 8 9 + 1) ∧ ∀ j, w'.1 51 j = if 4 * qn c ≤ j ∧ j < 4 * qn c + 4 then -5 else w.1 51 j) → P (some (.int c)) w'
def T_X8_call : qq_t := fun As w P => match As with
  | [.ref 8, .int a0, .int a1, .int a2, .int a3] => qq_go ww_sh ww_ro cs_X8_call (qq_at 167 kd_X8_call) (some .int) (fun pc => Nat.beq pc 128) P (H_X8_call P) 95 0 (lv_args 0 [.ref 8, .int a0, .int a1, .int a2, .int a3]) [] w
  | _ => False
theorem lp_mcall {P : Option Value → qq_w → Prop} {K : Nat → qq_L → List Value → qq_w → Prop} (S : qq_Sat ww_sh ww_ro cs_X8_call (qq_at 167 kd_X8_call) (some .int) P K) {w : qq_w} {x5 : Int32} {n : Nat} (e5 : x5 = nI n) (hn : n < 64)
    (hq : ∀ w' : qq_w, (w'.2 = w.2 ∧ (∀ q, q ≠ 8 → q ≠ 51 → w'.1 q = w.1 q) ∧ w'.1 8 = upd (w.1 8) 9 (w.1 8 9 + 1) ∧ ∀ j, w'.1 51 j = if 4 * n ≤ j ∧ j < 4 * n + 4 then -5 else w.1 51 j) → P (some (.int x5)) w') :
    ∀ m i, i + m = 4 → ∀ (x7 : Int32) (w1 : qq_w), x7 = nI i → qq_only [51] w w1 → (∀ j, w1.1 51 j = if 4 * n ≤ j ∧ j < 4 * n + i then -5 else w.1 51 j) → K 128 [(0, .ref 8), (5, .int x5), (7, .int x7)] [] w1 := by
  intro m
  induction m with
  | zero =>
    intro i hi x7 w1 e7 h1 h2
    have : i = 4 := by omega
    subst this
    refine qq_go_ok S (fun pc => Nat.beq pc 128) 60 ?_
    conv => whnf
    refine br_t (i_ge 4 e7 (by omega) (by omega)) ?_
    conv => whnf
    have o1 : w1.1 8 = w.1 8 := h1.2 8 (by simp)
    refine hq _ ⟨h1.1, fun q z1 z14 => ?_, ?_, h2⟩
    · show va_up w1.1 8 _ q = _
      simp only [va_up, z1, if_false]
      exact h1.2 q (by simpa using z14)
    · show upd (w1.1 8) 9 (w1.1 8 9 + 1) = _
      rw [o1]
  | succ m ih =>
    intro i hi x7 w1 e7 h1 h2
    refine qq_go_ok S (fun pc => Nat.beq pc 128) 60 ?_
    conv => whnf
    refine br_f (i_nge 4 e7 (by omega) (by omega)) ?_
    conv => whnf
    have e := nI_mr e5 e7 (nI_lit 4)
    refine ⟨i_in 256 e (by omega) (by decide), ?_⟩
    conv => whnf
    refine qq_wk S (ih (i + 1) (by omega) _ _ (i_s e7) (qq_only_ui h1 (by simp)) (fun j => ?_)) ⟨rfl, rfl, rfl, trivial⟩
    show upd (w1.1 51) ((4 : Int32) * x5 + x7).toNatClampNeg (-5) j = _
    rw [i_c e (by omega), upd_at, h2 j]
    (repeat' split) <;> first | rfl | omega
theorem hk_X8_call {P : Option Value → qq_w → Prop} {K : Nat → qq_L → List Value → qq_w → Prop} (S : qq_Sat ww_sh ww_ro cs_X8_call (qq_at 167 kd_X8_call) (some .int) P K) {pc : Nat} {lv : qq_L} {st : List Value} {w : qq_w} (h : H_X8_call P pc lv st w) : K pc lv st w := by
  obtain ⟨rfl, rfl, c, h0, hc, hq⟩ := h
  obtain ⟨e5, hn⟩ := qn_eq hc (by decide)
  exact qq_wk S (lp_mcall S e5 hn hq 4 0 rfl _ w rfl qq_only_rf (fun j => by rw [if_neg (by omega)])) h0
theorem bd_X8_call : ∀ As w P K, qq_Sat ww_sh ww_ro cs_X8_call (qq_at 167 kd_X8_call) (some .int) P K → T_X8_call As w P → K 0 (lv_args 0 As) [] w := by
  intro As w P K S h
  unfold T_X8_call at h
  split at h
  · exact qq_go_semi S (fun pc lv st w z => hk_X8_call S z) h
  · exact h.elim
theorem ha_X8_call : ∀ As w P, T_X8_call As w P → qq_wd As ≤ 8 := by
  intro As w P h
  unfold T_X8_call at h
  split at h
  · exact Nat.le_of_ble_eq_true rfl
  · exact h.elim
theorem hv_X8_call : ∀ As w P, T_X8_call As w P → ∃ (k : Nat) (r : List Value) (fs : List Nat), As = .ref k :: r ∧ ww_sh[k]? = some (.inr (8, fs)) := by
  intro As w P h
  unfold T_X8_call at h
  split at h
  · exact ⟨_, _, _, rfl, rfl⟩
  · exact h.elim
set_option maxRecDepth 100000 in
theorem M_X8_call (l : Launch) : qq_M l ww_T ww_N vwCl ww_sh ww_ro ww_zs yX8_call cX8_call 8 (some .int) (ww_rm 2) T_X8_call := by
  refine qq_mk (host := RX7) (is := ki_X8_call) (cs := cs_X8_call) (by decide) ww_k1 wl_X8 ww_so ww_so2 kc_X8_call kv_X8_call kg_X8_call ?_ ha_X8_call bd_X8_call
  intro k i q hi hq
  match k, hi, hq with
  | 0, hi, hq => cases hi; cases hq; exact fun p e s m args below meth c D tys tC ad Q pc X hdg => qq_cV (ci := 8) X ww_gd (M_X8_isProcedure l) kf_X8_isProcedure.1 (Or.inl (ww_a5 (i := 91) (w := Cond.methodLink RX8 123 yX8_isProcedure) rfl rfl)) kf_X8_isProcedure.2.1 kf_X8_isProcedure.2.2.1 kf_X8_isProcedure.2.2.2 ⟨by decide, by decide, by decide +kernel⟩ rfl rfl rfl ⟨by decide, by decide⟩ ⟨Nat.le_refl _, Nat.le_refl _⟩ hv_X8_isProcedure hdg
  | 1, hi, hq => cases hi; cases hq; exact fun p e s m args below meth c D tys tC ad Q pc X hdg => qq_cV (ci := 8) X ww_gd (M_X8_isVariable l) kf_X8_isVariable.1 (Or.inl (ww_a5 (i := 106) (w := Cond.methodLink RX8 130 yX8_isVariable) rfl rfl)) kf_X8_isVariable.2.1 kf_X8_isVariable.2.2.1 kf_X8_isVariable.2.2.2 ⟨by decide, by decide, by decide +kernel⟩ rfl rfl rfl ⟨by decide, by decide⟩ ⟨Nat.le_refl _, Nat.le_refl _⟩ hv_X8_isVariable hdg
  | 2, hi, hq => cases hi; cases hq; exact fun p e s m args below meth c D tys tC ad Q pc X hdg => qq_cV (ci := 8) X ww_gd (M_X8_meets l) kf_X8_meets.1 (Or.inl (ww_a5 (i := 117) (w := Cond.methodLink RX8 137 yX8_meets) rfl rfl)) kf_X8_meets.2.1 kf_X8_meets.2.2.1 kf_X8_meets.2.2.2 ⟨by decide, by decide, by decide +kernel⟩ rfl rfl rfl ⟨by decide, by decide⟩ ⟨Nat.le_refl _, Nat.le_refl _⟩ hv_X8_meets hdg
  | 3, hi, hq => cases hi; cases hq; exact fun p e s m args below meth c D tys tC ad Q pc X hdg => qq_cV (ci := 8) X ww_gd (M_X8_adds l) kf_X8_adds.1 (Or.inl (ww_a5 (i := 79) (w := Cond.methodLink RX8 119 yX8_adds) rfl rfl)) kf_X8_adds.2.1 kf_X8_adds.2.2.1 kf_X8_adds.2.2.2 ⟨by decide, by decide, by decide +kernel⟩ rfl rfl rfl ⟨by decide, by decide⟩ ⟨Nat.le_refl _, Nat.le_refl _⟩ hv_X8_adds hdg
  | n + 4, hi, hq => simp [cs_X8_call] at hq
abbrev cs_X8_copy : List (Nat × qq_t) := [(2, T_X8_isNode), (2, T_X8_meets), (3, T_X8_isPart), (1, T_X8_anew)]
/-- some places of a row are set to those of another row -/
def qq_cpd (g : Nat → Int32) (b : Nat) (f : Nat → Int32) (a n : Nat) (h : Nat → Int32) : Prop := ∀ j, h j = if b ≤ j ∧ j < b + n then f (a + (j - b)) else g j
def H_X8_copy (P : Option Value → qq_w → Prop) (pc : Nat) (lv : qq_L) (st : List Value) (w : qq_w) : Prop := pc = 101 ∧ st = [] ∧ ∃ c i o j n, qq_le [(0, .ref 8), (1, .int (nI c)), (2, .int (nI i)), (3, .int (nI o)), (4, .int (nI j)), (5, .int (nI n)), (6, .int 0)] lv ∧ c < 64 ∧ o < 64 ∧ i + n ≤ 4 ∧ j + n ≤ 4 ∧ ∀ w' : qq_w, (w'.2 = w.2 ∧ (∀ q, q ≠ 8 → q ≠ 51 → q ≠ 55 → w'.1 q = w.1 q) ∧ w'.1 8 = upd (w.1 8) 27 0 ∧ qq_cpd (w.1 51) (4 * o + j) (w.1 51) (4 * c + i) n (w'.1 51)) → P (some (.int 1)) w'
def T_X8_copy : qq_t := fun As w P => match As with
  | [.ref 8, .int a0, .int a1, .int a2, .int a3, .int a4] => qq_go ww_sh ww_ro cs_X8_copy (qq_at 177 kd_X8_copy) (some .int) (fun pc => Nat.beq pc 101) P (H_X8_copy P) 102 0 (lv_args 0 [.ref 8, .int a0, .int a1, .int a2, .int a3, .int a4]) [] w
  | _ => False
theorem cp_137 {P : Option Value → qq_w → Prop} {K : Nat → qq_L → List Value → qq_w → Prop} (S : qq_Sat ww_sh ww_ro cs_X8_copy (qq_at 177 kd_X8_copy) (some .int) P K) {w : qq_w} {o j n a : Nat} (ho : o < 64) (hj : j + n ≤ 4) (g0 : Nat → Int32) (h55 : ∀ k, k < n → w.1 55 k = g0 (a + k))
    (hq : ∀ w' : qq_w, (w'.2 = w.2 ∧ (∀ q, q ≠ 8 → q ≠ 51 → q ≠ 55 → w'.1 q = w.1 q) ∧ w'.1 8 = upd (w.1 8) 27 0 ∧ qq_cpd (w.1 51) (4 * o + j) g0 a n (w'.1 51)) → P (some (.int 1)) w') :
    ∀ m k, k + m = n → ∀ (x6 : Int32) (w1 : qq_w), x6 = nI k → qq_only [51] w w1 → qq_cpd (w.1 51) (4 * o + j) g0 a k (w1.1 51) → K 137 [(0, .ref 8), (3, .int (nI o)), (4, .int (nI j)), (5, .int (nI n)), (6, .int x6)] [] w1 := by
  intro m
  induction m with
  | zero =>
    intro k hk x6 w1 e6 h1 h2
    have : k = n := by omega
    subst this
    have o8 : w1.1 8 = w.1 8 := h1.2 8 (by simp)
    refine qq_go_ok S (fun pc => Nat.beq pc 137) 60 ?_
    conv => whnf
    refine br_t (i_ge' e6 rfl (by omega) (by omega)) ?_
    conv => whnf
    refine ⟨Or.inl rfl, ?_⟩
    conv => whnf
    refine hq _ ⟨h1.1, fun q z1 z2 z3 => ?_, ?_, h2⟩
    · show va_up w1.1 8 _ q = _
      simp only [va_up, z1, if_false]
      exact h1.2 q (by simpa using z2)
    · show upd (w1.1 8) 27 0 = _
      rw [o8]
  | succ m ih =>
    intro k hk x6 w1 e6 h1 h2
    have e : (4 : Int32) * nI o + nI j + x6 = nI (4 * o + j + k) := by rw [e6, nI_mr (a := nI o) rfl (x := nI j) rfl (nI_lit 4), nI_add]
    refine qq_go_ok S (fun pc => Nat.beq pc 137) 60 ?_
    conv => whnf
    refine br_f (i_lt' e6 rfl (by omega) (by omega)) ?_
    conv => whnf
    refine ⟨i_in 4 e6 (by omega) (by decide), ?_⟩
    conv => whnf
    refine ⟨i_in 256 e (by omega) (by decide), ?_⟩
    conv => whnf
    refine qq_wk S (ih (k + 1) (by omega) _ _ (i_s e6) (qq_only_ui h1 (by simp)) (fun q => ?_)) ⟨rfl, rfl, rfl, rfl, rfl, trivial⟩
    show upd (w1.1 51) ((4 : Int32) * nI o + nI j + x6).toNatClampNeg (w1.1 55 x6.toNatClampNeg) q = _
    rw [i_c e (by omega), i_c e6 (by omega), upd_at, h2 q, h1.2 55 (by simp), h55 k (by omega)]
    by_cases z : q = 4 * o + j + k
    · rw [if_pos z, if_pos (by omega)]
      congr 1
      omega
    · rw [if_neg z]
      by_cases z2 : 4 * o + j ≤ q ∧ q < 4 * o + j + k
      · rw [if_pos z2, if_pos (by omega)]
      · rw [if_neg z2, if_neg (by omega)]
theorem cp_101 {P : Option Value → qq_w → Prop} {K : Nat → qq_L → List Value → qq_w → Prop} (S : qq_Sat ww_sh ww_ro cs_X8_copy (qq_at 177 kd_X8_copy) (some .int) P K) {w : qq_w} {c i o j n : Nat} (hc : c < 64) (ho : o < 64) (hi : i + n ≤ 4) (hj : j + n ≤ 4)
    (hq : ∀ w' : qq_w, (w'.2 = w.2 ∧ (∀ q, q ≠ 8 → q ≠ 51 → q ≠ 55 → w'.1 q = w.1 q) ∧ w'.1 8 = upd (w.1 8) 27 0 ∧ qq_cpd (w.1 51) (4 * o + j) (w.1 51) (4 * c + i) n (w'.1 51)) → P (some (.int 1)) w') :
    ∀ m k, k + m = n → ∀ (x6 : Int32) (w1 : qq_w), x6 = nI k → qq_only [55] w w1 → (∀ q, q < k → w1.1 55 q = w.1 51 (4 * c + i + q)) → K 101 [(0, .ref 8), (1, .int (nI c)), (2, .int (nI i)), (3, .int (nI o)), (4, .int (nI j)), (5, .int (nI n)), (6, .int x6)] [] w1 := by
  intro m
  induction m with
  | zero =>
    intro k hk x6 w1 e6 h1 h2
    have : k = n := by omega
    subst this
    have o51 : w1.1 51 = w.1 51 := h1.2 51 (by simp)
    refine qq_go_ok S (fun pc => Nat.beq pc 101 || Nat.beq pc 137) 60 ?_
    conv => whnf
    refine br_t (i_ge' e6 rfl (by omega) (by omega)) ?_
    conv => whnf
    refine qq_wk S (cp_137 S (w := w1) (a := 4 * c + i) ho hj (w.1 51) h2 (fun w' h' => hq w' ⟨h'.1.trans h1.1, fun q z1 z2 z3 => ?_, ?_, ?_⟩) k 0 (Nat.zero_add _) _ w1 rfl qq_only_rf (fun q => by rw [if_neg (by omega)])) ⟨rfl, rfl, rfl, rfl, rfl, trivial⟩
    · rw [h'.2.1 q z1 z2 z3, h1.2 q (by simpa using z3)]
    · rw [h'.2.2.1, h1.2 8 (by simp)]
    · rw [← o51]
      have := h'.2.2.2
      rw [o51] at this ⊢
      exact this
  | succ m ih =>
    intro k hk x6 w1 e6 h1 h2
    have e : (4 : Int32) * nI c + nI i + x6 = nI (4 * c + i + k) := by rw [e6, nI_mr (a := nI c) rfl (x := nI i) rfl (nI_lit 4), nI_add]
    refine qq_go_ok S (fun pc => Nat.beq pc 101) 60 ?_
    conv => whnf
    refine br_f (i_lt' e6 rfl (by omega) (by omega)) ?_
    conv => whnf
    refine ⟨i_in 256 e (by omega) (by decide), ?_⟩
    conv => whnf
    refine ⟨i_in 4 e6 (by omega) (by decide), ?_⟩
    conv => whnf
    refine qq_wk S (ih (k + 1) (by omega) _ _ (i_s e6) (qq_only_ui h1 (by simp)) (fun q hq => ?_)) ⟨rfl, rfl, rfl, rfl, rfl, rfl, rfl, trivial⟩
    show upd (w1.1 55) x6.toNatClampNeg (w1.1 51 ((4 : Int32) * nI c + nI i + x6).toNatClampNeg) q = _
    rw [i_c e (by omega), i_c e6 (by omega), upd_at, h1.2 51 (by simp)]
    by_cases z : q = k
    · rw [if_pos z, z]
    · rw [if_neg z]
      exact h2 q (by omega)
theorem hk_X8_copy {P : Option Value → qq_w → Prop} {K : Nat → qq_L → List Value → qq_w → Prop} (S : qq_Sat ww_sh ww_ro cs_X8_copy (qq_at 177 kd_X8_copy) (some .int) P K) {pc : Nat} {lv : qq_L} {st : List Value} {w : qq_w} (h : H_X8_copy P pc lv st w) : K pc lv st w := by
  obtain ⟨rfl, rfl, c, i, o, j, n, h0, hc, ho, hi, hj, hq⟩ := h
  exact qq_wk S (cp_101 S hc ho hi hj hq n 0 (Nat.zero_add _) _ w rfl qq_only_rf (fun q hq => absurd hq (by omega))) h0
theorem bd_X8_copy : ∀ As w P K, qq_Sat ww_sh ww_ro cs_X8_copy (qq_at 177 kd_X8_copy) (some .int) P K → T_X8_copy As w P → K 0 (lv_args 0 As) [] w := by
  intro As w P K S h
  unfold T_X8_copy at h
  split at h
  · exact qq_go_semi S (fun pc lv st w z => hk_X8_copy S z) h
  · exact h.elim
theorem ha_X8_copy : ∀ As w P, T_X8_copy As w P → qq_wd As ≤ 7 := by
  intro As w P h
  unfold T_X8_copy at h
  split at h
  · exact Nat.le_of_ble_eq_true rfl
  · exact h.elim
theorem hv_X8_copy : ∀ As w P, T_X8_copy As w P → ∃ (k : Nat) (r : List Value) (fs : List Nat), As = .ref k :: r ∧ ww_sh[k]? = some (.inr (8, fs)) := by
  intro As w P h
  unfold T_X8_copy at h
  split at h
  · exact ⟨_, _, _, rfl, rfl⟩
  · exact h.elim
set_option maxRecDepth 100000 in
theorem M_X8_copy (l : Launch) : qq_M l ww_T ww_N vwCl ww_sh ww_ro ww_zs yX8_copy cX8_copy 7 (some .int) (ww_rm 2) T_X8_copy := by
  refine qq_mk (host := RX7) (is := ki_X8_copy) (cs := cs_X8_copy) (by decide) ww_k1 wl_X8 ww_so ww_so2 kc_X8_copy kv_X8_copy kg_X8_copy ?_ ha_X8_copy bd_X8_copy
  intro k i q hi hq
  match k, hi, hq with
  | 0, hi, hq => cases hi; cases hq; exact fun p e s m args below meth c D tys tC ad Q pc X hdg => qq_cV (ci := 8) X ww_gd (M_X8_isNode l) kf_X8_isNode.1 (Or.inl (ww_a5 (i := 125) (w := Cond.methodLink RX8 144 yX8_isNode) rfl rfl)) kf_X8_isNode.2.1 kf_X8_isNode.2.2.1 kf_X8_isNode.2.2.2 ⟨by decide, by decide, by decide +kernel⟩ rfl rfl rfl ⟨by decide, by decide⟩ ⟨Nat.le_refl _, Nat.le_refl _⟩ hv_X8_isNode hdg
  | 1, hi, hq => cases hi; cases hq; exact fun p e s m args below meth c D tys tC ad Q pc X hdg => qq_cV (ci := 8) X ww_gd (M_X8_meets l) kf_X8_meets.1 (Or.inl (ww_a5 (i := 117) (w := Cond.methodLink RX8 137 yX8_meets) rfl rfl)) kf_X8_meets.2.1 kf_X8_meets.2.2.1 kf_X8_meets.2.2.2 ⟨by decide, by decide, by decide +kernel⟩ rfl rfl rfl ⟨by decide, by decide⟩ ⟨Nat.le_refl _, Nat.le_refl _⟩ hv_X8_meets hdg
  | 2, hi, hq => cases hi; cases hq; exact fun p e s m args below meth c D tys tC ad Q pc X hdg => qq_cS X ww_gd (M_X8_isPart l) kf_X8_isPart.1 (Or.inl (ww_a5 (i := 133) (w := Cond.methodLink RX8 147 yX8_isPart) rfl rfl)) kf_X8_isPart.2.1 kf_X8_isPart.2.2 ⟨by decide, by decide, by decide +kernel⟩ rfl rfl ⟨by decide, by decide⟩ ⟨Nat.le_refl _, Nat.le_refl _⟩ hdg
  | 3, hi, hq => cases hi; cases hq; exact fun p e s m args below meth c D tys tC ad Q pc X hdg => qq_cV (ci := 8) X ww_gd (M_X8_anew l) kf_X8_anew.1 (Or.inl (ww_a5 (i := 83) (w := Cond.methodLink RX8 116 yX8_anew) rfl rfl)) kf_X8_anew.2.1 kf_X8_anew.2.2.1 kf_X8_anew.2.2.2 ⟨by decide, by decide, by decide +kernel⟩ rfl rfl rfl ⟨by decide, by decide⟩ ⟨Nat.le_refl _, Nat.le_refl _⟩ hv_X8_anew hdg
  | n + 4, hi, hq => simp [cs_X8_copy] at hq
abbrev cs_X8_edge : List (Nat × qq_t) := [(2, T_X8_isNode), (1, T_X8_anew)]
def H_X8_edge (P : Option Value → qq_w → Prop) (pc : Nat) (lv : qq_L) (st : List Value) (w : qq_w) : Prop := pc = 76 ∧ st = [] ∧ ∃ a b E, qq_le [(0, .ref 8), (1, .int a), (2, .int b), (3, .int 0)] lv ∧ w.1 8 20 = nI E ∧ E ≤ 120 ∧ (¬ qq_find2 (w.1 52) (w.1 53) a b E 0 = -5 → P (some (.int (qq_find2 (w.1 52) (w.1 53) a b E 0))) w) ∧ (qq_find2 (w.1 52) (w.1 53) a b E 0 = -5 → E = 120 → P (some (.int (-2))) w) ∧ (qq_find2 (w.1 52) (w.1 53) a b E 0 = -5 → E < 120 → P (some (.int (nI E))) (qq_ui (qq_ui (qq_ui (qq_ui w 52 E a) 53 E b) 8 20 (nI (E + 1))) 8 27 0))
def T_X8_edge : qq_t := fun As w P => match As with
  | [.ref 8, .int a0, .int a1] => qq_go ww_sh ww_ro cs_X8_edge (qq_at 165 kd_X8_edge) (some .int) (fun pc => Nat.beq pc 76) P (H_X8_edge P) 96 0 (lv_args 0 [.ref 8, .int a0, .int a1]) [] w
  | _ => False
theorem lp_medge {P : Option Value → qq_w → Prop} {K : Nat → qq_L → List Value → qq_w → Prop} (S : qq_Sat ww_sh ww_ro cs_X8_edge (qq_at 165 kd_X8_edge) (some .int) P K) {w : qq_w} {a b : Int32} {E : Nat} (hE : E ≤ 120) (eE : w.1 8 20 = nI E) :
    ∀ m i, i + m = E → ∀ x3 : Int32, x3 = nI i → (¬ qq_find2 (w.1 52) (w.1 53) a b m i = -5 → P (some (.int (qq_find2 (w.1 52) (w.1 53) a b m i))) w) → (¬ qq_find2 (w.1 52) (w.1 53) a b m i = -5 ∨ (E = 120 → P (some (.int (-2))) w) ∧ (E < 120 → P (some (.int (nI E))) (qq_ui (qq_ui (qq_ui (qq_ui w 52 E a) 53 E b) 8 20 (nI (E + 1))) 8 27 0))) → K 76 [(0, .ref 8), (1, .int a), (2, .int b), (3, .int x3)] [] w := by
  intro m
  induction m with
  | zero =>
    intro i hi x3 e3 hq hr
    refine qq_go_ok S (fun pc => Nat.beq pc 76) 60 ?_
    conv => whnf
    refine br_t (i_ge' e3 eE (by omega) (by omega)) ?_
    conv => whnf
    obtain ⟨hq2, hq3⟩ : (E = 120 → P (some (.int (-2))) w) ∧ (E < 120 → P (some (.int (nI E))) (qq_ui (qq_ui (qq_ui (qq_ui w 52 E a) 53 E b) 8 20 (nI (E + 1))) 8 27 0)) := by
      rcases hr with z | z
      · exact absurd rfl z
      · exact z
    refine ⟨fun h => ?_, fun h => ?_⟩
    · have h : ¬ w.1 8 20 = 120 := h
      have hlt : E < 120 := by
        rcases Nat.lt_or_ge E 120 with z | z
        · exact z
        · exact absurd (show w.1 8 20 = 120 by rw [eE, show E = 120 by omega]; rfl) h
      conv => whnf
      refine ⟨i_in 120 eE hlt (by decide), ?_⟩
      conv => whnf
      refine ⟨i_in 120 eE hlt (by decide), ?_⟩
      conv => whnf
      refine ⟨Or.inl rfl, ?_⟩
      conv => whnf
      have cE : (w.1 8 20).toNatClampNeg = E := i_c eE (by omega)
      have q1 : w.1 8 20 + 1 = nI (E + 1) := i_s eE
      have q2 : w.1 8 20 + 1 - 1 = nI E := by rw [q1]; exact nI_pred E
      have key := hq3 hlt
      show P (some (.int (w.1 8 20 + 1 - 1))) (qq_ui (qq_ui (qq_ui (qq_ui w 52 (w.1 8 20).toNatClampNeg a) 53 (w.1 8 20).toNatClampNeg b) 8 20 (w.1 8 20 + 1)) 8 27 0)
      rw [q2, q1, cE]
      exact key
    · have h : w.1 8 20 = 120 := h
      conv => whnf
      refine hq2 ?_
      rw [eE] at h
      exact (nI_eq (b := 120) (by omega) (by omega)).mp h
  | succ m ih =>
    intro i hi x3 e3 hq hr
    have ec := i_c e3 (by omega)
    have next : ¬ (w.1 52 i = a ∧ w.1 53 i = b) → K 76 [(0, .ref 8), (1, .int a), (2, .int b), (3, .int (x3 + 1))] [] w := by
      intro z
      have e : qq_find2 (w.1 52) (w.1 53) a b (m + 1) i = qq_find2 (w.1 52) (w.1 53) a b m (i + 1) := if_neg z
      rw [e] at hq hr
      exact ih (i + 1) (by omega) _ (i_s e3) hq hr
    refine qq_go_ok S (fun pc => Nat.beq pc 76) 60 ?_
    conv => whnf
    refine br_f (i_lt' e3 eE (by omega) (by omega)) ?_
    conv => whnf
    refine ⟨i_in 120 e3 (by omega) (by decide), ?_⟩
    conv => whnf
    refine ⟨fun h => ?_, fun h => ?_⟩
    · have h : ¬ w.1 52 x3.toNatClampNeg = a := h
      rw [ec] at h
      conv => whnf
      exact qq_wk S (next fun z => h z.1) ⟨rfl, rfl, rfl, rfl, trivial⟩
    · have h : w.1 52 x3.toNatClampNeg = a := h
      rw [ec] at h
      conv => whnf
      refine ⟨i_in 120 e3 (by omega) (by decide), ?_⟩
      conv => whnf
      refine ⟨fun h2 => ?_, fun h2 => ?_⟩
      · have h2 : ¬ w.1 53 x3.toNatClampNeg = b := h2
        rw [ec] at h2
        conv => whnf
        exact qq_wk S (next fun z => h2 z.2) ⟨rfl, rfl, rfl, rfl, trivial⟩
      · have h2 : w.1 53 x3.toNatClampNeg = b := h2
        rw [ec] at h2
        conv => whnf
        have e : qq_find2 (w.1 52) (w.1 53) a b (m + 1) i = nI i := if_pos ⟨h, h2⟩
        rw [e] at hq
        rw [e3]
        refine hq ?_
        intro z
        have := nI_pos (n := i) (by omega)
        rw [z] at this
        exact this (by decide)
theorem hk_X8_edge {P : Option Value → qq_w → Prop} {K : Nat → qq_L → List Value → qq_w → Prop} (S : qq_Sat ww_sh ww_ro cs_X8_edge (qq_at 165 kd_X8_edge) (some .int) P K) {pc : Nat} {lv : qq_L} {st : List Value} {w : qq_w} (h : H_X8_edge P pc lv st w) : K pc lv st w := by
  obtain ⟨rfl, rfl, a, b, E, h0, eE, hE, h1, h2, h3⟩ := h
  have hr : ¬ qq_find2 (w.1 52) (w.1 53) a b E 0 = -5 ∨ (E = 120 → P (some (.int (-2))) w) ∧ (E < 120 → P (some (.int (nI E))) (qq_ui (qq_ui (qq_ui (qq_ui w 52 E a) 53 E b) 8 20 (nI (E + 1))) 8 27 0)) := by
    by_cases z : qq_find2 (w.1 52) (w.1 53) a b E 0 = -5
    · exact Or.inr ⟨h2 z, h3 z⟩
    · exact Or.inl z
  exact qq_wk S (lp_medge S hE eE E 0 (Nat.zero_add _) _ rfl h1 hr) h0
theorem bd_X8_edge : ∀ As w P K, qq_Sat ww_sh ww_ro cs_X8_edge (qq_at 165 kd_X8_edge) (some .int) P K → T_X8_edge As w P → K 0 (lv_args 0 As) [] w := by
  intro As w P K S h
  unfold T_X8_edge at h
  split at h
  · exact qq_go_semi S (fun pc lv st w z => hk_X8_edge S z) h
  · exact h.elim
theorem ha_X8_edge : ∀ As w P, T_X8_edge As w P → qq_wd As ≤ 4 := by
  intro As w P h
  unfold T_X8_edge at h
  split at h
  · exact Nat.le_of_ble_eq_true rfl
  · exact h.elim
theorem hv_X8_edge : ∀ As w P, T_X8_edge As w P → ∃ (k : Nat) (r : List Value) (fs : List Nat), As = .ref k :: r ∧ ww_sh[k]? = some (.inr (8, fs)) := by
  intro As w P h
  unfold T_X8_edge at h
  split at h
  · exact ⟨_, _, _, rfl, rfl⟩
  · exact h.elim
set_option maxRecDepth 100000 in
theorem M_X8_edge (l : Launch) : qq_M l ww_T ww_N vwCl ww_sh ww_ro ww_zs yX8_edge cX8_edge 4 (some .int) (ww_rm 2) T_X8_edge := by
  refine qq_mk (host := RX7) (is := ki_X8_edge) (cs := cs_X8_edge) (by decide) ww_k1 wl_X8 ww_so ww_so2 kc_X8_edge kv_X8_edge kg_X8_edge ?_ ha_X8_edge bd_X8_edge
  intro k i q hi hq
  match k, hi, hq with
  | 0, hi, hq => cases hi; cases hq; exact fun p e s m args below meth c D tys tC ad Q pc X hdg => qq_cV (ci := 8) X ww_gd (M_X8_isNode l) kf_X8_isNode.1 (Or.inl (ww_a5 (i := 125) (w := Cond.methodLink RX8 144 yX8_isNode) rfl rfl)) kf_X8_isNode.2.1 kf_X8_isNode.2.2.1 kf_X8_isNode.2.2.2 ⟨by decide, by decide, by decide +kernel⟩ rfl rfl rfl ⟨by decide, by decide⟩ ⟨Nat.le_refl _, Nat.le_refl _⟩ hv_X8_isNode hdg
  | 1, hi, hq => cases hi; cases hq; exact fun p e s m args below meth c D tys tC ad Q pc X hdg => qq_cV (ci := 8) X ww_gd (M_X8_anew l) kf_X8_anew.1 (Or.inl (ww_a5 (i := 83) (w := Cond.methodLink RX8 116 yX8_anew) rfl rfl)) kf_X8_anew.2.1 kf_X8_anew.2.2.1 kf_X8_anew.2.2.2 ⟨by decide, by decide, by decide +kernel⟩ rfl rfl rfl ⟨by decide, by decide⟩ ⟨Nat.le_refl _, Nat.le_refl _⟩ hv_X8_anew hdg
  | n + 2, hi, hq => simp [cs_X8_edge] at hq
abbrev cs_X8_is : List (Nat × qq_t) := [(2, T_X8_isNode), (3, T_X8_in), (1, T_X8_above)]
def H_X8_is (P : Option Value → qq_w → Prop) (pc : Nat) (lv : qq_L) (st : List Value) (w : qq_w) : Prop := pc = 27 ∧ st = [] ∧ ∃ a k, qq_le [(0, .ref 8), (2, .int a), (3, .int k)] lv ∧ vp_in k 11 ∧ vp_in a 11 ∧ (qq_under (qn k) a → P (some (.int 1)) w) ∧ (¬ qq_under (qn k) a → P (some (.int 0)) w)
def T_X8_is : qq_t := fun As w P => match As with
  | [.ref 8, .int a0, .int a1] => qq_go ww_sh ww_ro cs_X8_is (qq_at 57 kd_X8_is) (some .int) (fun pc => Nat.beq pc 27) P (H_X8_is P) 34 0 (lv_args 0 [.ref 8, .int a0, .int a1]) [] w
  | _ => False
theorem mis_end {P : Option Value → qq_w → Prop} {K : Nat → qq_L → List Value → qq_w → Prop} (S : qq_Sat ww_sh ww_ro cs_X8_is (qq_at 57 kd_X8_is) (some .int) P K) {w : qq_w} {a : Int32} (ha : vp_in a 11) (h0 : P (some (.int 0)) w) : K 27 [(0, .ref 8), (2, .int a), (3, .int (-5))] [] w := by
  refine qq_go_ok S (fun pc => Nat.beq pc 27) 40 ?_
  conv => whnf
  refine br_t rfl ?_
  conv => whnf
  refine br_nt ?_ ?_
  · rintro rfl
    exact ha (Or.inl (by decide))
  · conv => whnf
    exact h0
theorem mis_step {P : Option Value → qq_w → Prop} {K : Nat → qq_L → List Value → qq_w → Prop} (S : qq_Sat ww_sh ww_ro cs_X8_is (qq_at 57 kd_X8_is) (some .int) P K) {w : qq_w} {a k : Int32} {n : Nat} (ek : k = nI n) (hn : n < 11) (h1 : a = k → P (some (.int 1)) w) (h0 : ¬ a = k → K 27 [(0, .ref 8), (2, .int a), (3, .int (if n = 5 then 4 else if n = 4 ∨ n = 6 ∨ n = 7 then 3 else -5))] [] w) : K 27 [(0, .ref 8), (2, .int a), (3, .int k)] [] w := by
  have hk5 : ¬ k = -5 := by
    rw [ek]
    intro z
    have := nI_pos (n := n) (by omega)
    rw [z] at this
    exact this (by decide)
  have eq : ∀ c, c < 11 → (k = nI c ↔ n = c) := fun c hc => by rw [ek]; exact nI_eq (by omega) (by omega)
  have e5 : k = 5 ↔ n = 5 := eq 5 (by omega)
  have e4 : k = 4 ↔ n = 4 := eq 4 (by omega)
  have e6 : k = 6 ↔ n = 6 := eq 6 (by omega)
  have e7 : k = 7 ↔ n = 7 := eq 7 (by omega)
  refine qq_go_ok S (fun pc => Nat.beq pc 27) 60 ?_
  conv => whnf
  refine br_f hk5 ?_
  conv => whnf
  refine ⟨fun h => ?_, fun h => ?_⟩
  · conv => whnf
    refine br_nf h ?_
    conv => whnf
    exact h1 h.symm
  · have h0 := h0 (fun z => h z.symm)
    conv => whnf
    refine ⟨fun z5 => ?_, fun z5 => ?_⟩
    · rw [if_neg (fun z => z5 (e5.mpr z))] at h0
      conv => whnf
      refine ⟨fun z4 => ?_, fun z4 => ?_⟩
      · rw [if_pos (Or.inl (e4.mp z4))] at h0
        conv => whnf
        exact qq_wk S h0 ⟨rfl, rfl, rfl, trivial⟩
      · conv => whnf
        refine ⟨fun z6 => ?_, fun z6 => ?_⟩
        · rw [if_pos (Or.inr (Or.inl (e6.mp z6)))] at h0
          conv => whnf
          exact qq_wk S h0 ⟨rfl, rfl, rfl, trivial⟩
        · conv => whnf
          refine ⟨fun z7 => ?_, fun z7 => ?_⟩
          · rw [if_neg (by rintro (z | z | z); exact z4 (e4.mpr z); exact z6 (e6.mpr z); exact z7 (e7.mpr z))] at h0
            conv => whnf
            exact qq_wk S h0 ⟨rfl, rfl, rfl, trivial⟩
          · rw [if_pos (Or.inr (Or.inr (e7.mp z7)))] at h0
            conv => whnf
            exact qq_wk S h0 ⟨rfl, rfl, rfl, trivial⟩
    · rw [if_pos (e5.mp z5)] at h0
      conv => whnf
      exact qq_wk S h0 ⟨rfl, rfl, rfl, trivial⟩
theorem hk_X8_is {P : Option Value → qq_w → Prop} {K : Nat → qq_L → List Value → qq_w → Prop} (S : qq_Sat ww_sh ww_ro cs_X8_is (qq_at 57 kd_X8_is) (some .int) P K) {pc : Nat} {lv : qq_L} {st : List Value} {w : qq_w} (h : H_X8_is P pc lv st w) : K pc lv st w := by
  obtain ⟨rfl, rfl, a, k, hl, hk, ha, hq1, hq0⟩ := h
  obtain ⟨ek, hkn⟩ := qn_eq hk (by decide)
  refine qq_wk S (lv0 := [(0, .ref 8), (2, .int a), (3, .int k)]) ?_ hl
  generalize qn k = n at *
  refine mis_step S ek hkn (fun z => hq1 (Or.inl (by rw [z, ek]))) (fun z => ?_)
  have z : ¬ a = nI n := by rw [← ek]; exact z
  by_cases n5 : n = 5
  · subst n5
    rw [if_pos rfl]
    refine mis_step S (n := 4) (by decide) (by omega) (fun q => hq1 (Or.inr (Or.inr ⟨q, rfl⟩))) (fun q => ?_)
    rw [if_neg (by decide), if_pos (Or.inl rfl)]
    refine mis_step S (n := 3) (by decide) (by omega) (fun q3 => hq1 (Or.inr (Or.inl ⟨q3, by omega⟩))) (fun q3 => ?_)
    rw [if_neg (by decide), if_neg (by decide)]
    refine mis_end S ha (hq0 ?_)
    rintro (y | ⟨y, -⟩ | ⟨y, -⟩)
    · exact z y
    · exact q3 y
    · exact q y
  · rw [if_neg n5]
    by_cases n4 : n = 4 ∨ n = 6 ∨ n = 7
    · rw [if_pos n4]
      refine mis_step S (n := 3) (by decide) (by omega) (fun q3 => hq1 (Or.inr (Or.inl ⟨q3, by omega⟩))) (fun q3 => ?_)
      rw [if_neg (by decide), if_neg (by decide)]
      refine mis_end S ha (hq0 ?_)
      rintro (y | ⟨y, -⟩ | ⟨-, y⟩)
      · exact z y
      · exact q3 y
      · exact n5 y
    · rw [if_neg n4]
      refine mis_end S ha (hq0 ?_)
      rintro (y | ⟨-, y⟩ | ⟨-, y⟩)
      · exact z y
      · omega
      · exact n5 y
theorem bd_X8_is : ∀ As w P K, qq_Sat ww_sh ww_ro cs_X8_is (qq_at 57 kd_X8_is) (some .int) P K → T_X8_is As w P → K 0 (lv_args 0 As) [] w := by
  intro As w P K S h
  unfold T_X8_is at h
  split at h
  · exact qq_go_semi S (fun pc lv st w z => hk_X8_is S z) h
  · exact h.elim
theorem ha_X8_is : ∀ As w P, T_X8_is As w P → qq_wd As ≤ 4 := by
  intro As w P h
  unfold T_X8_is at h
  split at h
  · exact Nat.le_of_ble_eq_true rfl
  · exact h.elim
theorem hv_X8_is : ∀ As w P, T_X8_is As w P → ∃ (k : Nat) (r : List Value) (fs : List Nat), As = .ref k :: r ∧ ww_sh[k]? = some (.inr (8, fs)) := by
  intro As w P h
  unfold T_X8_is at h
  split at h
  · exact ⟨_, _, _, rfl, rfl⟩
  · exact h.elim
set_option maxRecDepth 100000 in
theorem M_X8_is (l : Launch) : qq_M l ww_T ww_N vwCl ww_sh ww_ro ww_zs yX8_is cX8_is 4 (some .int) (ww_rm 2) T_X8_is := by
  refine qq_mk (host := RX7) (is := ki_X8_is) (cs := cs_X8_is) (by decide) ww_k1 wl_X8 ww_so ww_so2 kc_X8_is kv_X8_is kg_X8_is ?_ ha_X8_is bd_X8_is
  intro k i q hi hq
  match k, hi, hq with
  | 0, hi, hq => cases hi; cases hq; exact fun p e s m args below meth c D tys tC ad Q pc X hdg => qq_cV (ci := 8) X ww_gd (M_X8_isNode l) kf_X8_isNode.1 (Or.inl (ww_a5 (i := 125) (w := Cond.methodLink RX8 144 yX8_isNode) rfl rfl)) kf_X8_isNode.2.1 kf_X8_isNode.2.2.1 kf_X8_isNode.2.2.2 ⟨by decide, by decide, by decide +kernel⟩ rfl rfl rfl ⟨by decide, by decide⟩ ⟨Nat.le_refl _, Nat.le_refl _⟩ hv_X8_isNode hdg
  | 1, hi, hq => cases hi; cases hq; exact fun p e s m args below meth c D tys tC ad Q pc X hdg => qq_cS X ww_gd (M_X8_in l) kf_X8_in.1 (Or.inl (ww_a5 (i := 76) (w := Cond.methodLink RX8 105 yX8_in) rfl rfl)) kf_X8_in.2.1 kf_X8_in.2.2 ⟨by decide, by decide, by decide +kernel⟩ rfl rfl ⟨by decide, by decide⟩ ⟨Nat.le_refl _, Nat.le_refl _⟩ hdg
  | 2, hi, hq => cases hi; cases hq; exact fun p e s m args below meth c D tys tC ad Q pc X hdg => qq_cS X ww_gd (M_X8_above l) kf_X8_above.1 (Or.inl (ww_a5 (i := 156) (w := Cond.methodLink RX8 156 yX8_above) rfl rfl)) kf_X8_above.2.1 kf_X8_above.2.2 ⟨by decide, by decide, by decide +kernel⟩ rfl rfl ⟨by decide, by decide⟩ ⟨Nat.le_refl _, Nat.le_refl _⟩ hdg
  | n + 3, hi, hq => simp [cs_X8_is] at hq
abbrev cs_X8_forget : List (Nat × qq_t) := [(2, T_X8_isNode), (3, T_X8_in), (2, T_X8_meets), (1, T_X8_anew)]
def H_X8_forget (P : Option Value → qq_w → Prop) (pc : Nat) (lv : qq_L) (st : List Value) (w : qq_w) : Prop := pc = 45 ∧ st = [] ∧ ∃ n p, qq_le [(0, .ref 8), (1, .int (nI n)), (2, .int (nI p)), (3, .int 0), (4, .int 0)] lv ∧ n < 64 ∧ p < 3 ∧ (qq_some1 (w.1 54) (39 * n + 13 * p) 13 (-5) → ∀ w' : qq_w, (w'.2 = w.2 ∧ (∀ q, q ≠ 8 → q ≠ 54 → w'.1 q = w.1 q) ∧ w'.1 8 = upd (w.1 8) 27 0 ∧ ∀ j, w'.1 54 j = if 39 * n + 13 * p ≤ j ∧ j < 39 * n + 13 * p + 13 then -5 else w.1 54 j) → P (some (.int 1)) w') ∧ (¬ qq_some1 (w.1 54) (39 * n + 13 * p) 13 (-5) → P (some (.int (-3))) (qq_ui (qq_ui w 8 0 1) 36 1 (w.1 36 1 + 1)))
def T_X8_forget : qq_t := fun As w P => match As with
  | [.ref 8, .int a0, .int a1] => qq_go ww_sh ww_ro cs_X8_forget (qq_at 125 kd_X8_forget) (some .int) (fun pc => Nat.beq pc 45) P (H_X8_forget P) 76 0 (lv_args 0 [.ref 8, .int a0, .int a1]) [] w
  | _ => False
theorem lp_mforget {P : Option Value → qq_w → Prop} {K : Nat → qq_L → List Value → qq_w → Prop} (S : qq_Sat ww_sh ww_ro cs_X8_forget (qq_at 125 kd_X8_forget) (some .int) P K) {w : qq_w} {n p : Nat} (hn : n < 64) (hp : p < 3) (h1 : qq_some1 (w.1 54) (39 * n + 13 * p) 13 (-5) → ∀ w' : qq_w, (w'.2 = w.2 ∧ (∀ q, q ≠ 8 → q ≠ 54 → w'.1 q = w.1 q) ∧ w'.1 8 = upd (w.1 8) 27 0 ∧ ∀ j, w'.1 54 j = if 39 * n + 13 * p ≤ j ∧ j < 39 * n + 13 * p + 13 then -5 else w.1 54 j) → P (some (.int 1)) w') (h0 : ¬ qq_some1 (w.1 54) (39 * n + 13 * p) 13 (-5) → P (some (.int (-3))) (qq_ui (qq_ui w 8 0 1) 36 1 (w.1 36 1 + 1))) :
    ∀ m i, i + m = 13 → ∀ (x3 x4 : Int32) (w1 : qq_w), x4 = nI i → ((x3 = 1 ∧ qq_some1 (w.1 54) (39 * n + 13 * p) i (-5)) ∨ (x3 = 0 ∧ ¬ qq_some1 (w.1 54) (39 * n + 13 * p) i (-5))) → qq_only [54] w w1 → (∀ j, w1.1 54 j = if 39 * n + 13 * p ≤ j ∧ j < 39 * n + 13 * p + i then -5 else w.1 54 j) → K 45 [(0, .ref 8), (1, .int (nI n)), (2, .int (nI p)), (3, .int x3), (4, .int x4)] [] w1 := by
  intro m
  induction m with
  | zero =>
    intro i hi x3 x4 w1 e4 h3 h2 h4
    have : i = 13 := by omega
    subst this
    refine qq_go_ok S (fun pc => Nat.beq pc 45) 60 ?_
    conv => whnf
    refine br_t (i_ge 13 e4 (by omega) (by omega)) ?_
    rcases h3 with ⟨rfl, h3⟩ | ⟨rfl, h3⟩
    · conv => whnf
      refine br_nt (by decide) ?_
      conv => whnf
      refine ⟨Or.inl rfl, ?_⟩
      conv => whnf
      refine h1 h3 _ ⟨h2.1, fun q z1 z2 => ?_, ?_, h4⟩
      · show va_up w1.1 8 _ q = _
        simp only [va_up, z1, if_false]
        exact h2.2 q (by simpa using z2)
      · show upd (w1.1 8) 27 0 = _
        rw [h2.2 8 (by simp)]
    · conv => whnf
      refine br_nf rfl ?_
      conv => whnf
      refine ⟨i_in 6 (k := 1) rfl (by omega) (by decide), ?_⟩
      conv => whnf
      refine ⟨i_in 6 (k := 1) rfl (by omega) (by decide), ?_⟩
      conv => whnf
      have e : w1 = w := by
        refine Prod.ext (funext fun q => ?_) h2.1
        by_cases z : q = 54
        · subst z
          funext j
          rw [h4 j]
          split
          · rename_i z
            by_cases y : w.1 54 j = -5
            · exact y.symm
            · refine absurd ⟨j - (39 * n + 13 * p), by omega, ?_⟩ h3
              rw [show 39 * n + 13 * p + (j - (39 * n + 13 * p)) = j by omega]
              exact y
          · rfl
        · exact h2.2 q (by simpa using z)
      subst e
      exact h0 h3
  | succ m ih =>
    intro i hi x3 x4 w1 e4 h3 h2 h4
    have e : (39 : Int32) * nI n + 13 * nI p + x4 = nI (39 * n + 13 * p + i) := by
      have e1 : (39 : Int32) * nI n = nI (39 * n) := pk_mul 39 n
      have e2 : (13 : Int32) * nI p = nI (13 * p) := pk_mul 13 p
      rw [e1, e2, e4, nI_add, nI_add]
    have ce : w1.1 54 ((39 : Int32) * nI n + 13 * nI p + x4).toNatClampNeg = w.1 54 (39 * n + 13 * p + i) := by
      rw [i_c e (by omega), h4, if_neg (by omega)]
    have nx : ∀ x3 : Int32, ((x3 = 1 ∧ qq_some1 (w.1 54) (39 * n + 13 * p) (i + 1) (-5)) ∨ (x3 = 0 ∧ ¬ qq_some1 (w.1 54) (39 * n + 13 * p) (i + 1) (-5))) → K 45 [(0, .ref 8), (1, .int (nI n)), (2, .int (nI p)), (3, .int x3), (4, .int (x4 + 1))] [] (qq_ui w1 54 ((39 : Int32) * nI n + 13 * nI p + x4).toNatClampNeg (-5)) := by
      intro x3 h3
      refine ih (i + 1) (by omega) _ _ _ (i_s e4) h3 (qq_only_ui h2 (by simp)) (fun j => ?_)
      show upd (w1.1 54) ((39 : Int32) * nI n + 13 * nI p + x4).toNatClampNeg (-5) j = _
      rw [i_c e (by omega), upd_at, h4 j]
      (repeat' split) <;> first | rfl | omega
    refine qq_go_ok S (fun pc => Nat.beq pc 45) 60 ?_
    conv => whnf
    refine br_f (i_nge 13 e4 (by omega) (by omega)) ?_
    rcases h3 with ⟨rfl, h3⟩ | ⟨rfl, h3⟩
    · conv => whnf
      refine br_nt (by decide) ?_
      conv => whnf
      refine ⟨i_in 2496 e (by omega) (by decide), ?_⟩
      conv => whnf
      obtain ⟨k, z1, z2⟩ := h3
      exact qq_wk S (nx 1 (Or.inl ⟨rfl, k, by omega, z2⟩)) ⟨rfl, rfl, rfl, rfl, rfl, trivial⟩
    · conv => whnf
      refine br_nf rfl ?_
      conv => whnf
      refine ⟨i_in 2496 e (by omega) (by decide), ?_⟩
      conv => whnf
      refine ⟨fun h => ?_, fun h => ?_⟩
      · have h : w1.1 54 ((39 : Int32) * nI n + 13 * nI p + x4).toNatClampNeg = -5 := h
        rw [ce] at h
        conv => whnf
        refine ⟨i_in 2496 e (by omega) (by decide), ?_⟩
        conv => whnf
        refine qq_wk S (nx 0 (Or.inr ⟨rfl, ?_⟩)) ⟨rfl, rfl, rfl, rfl, rfl, trivial⟩
        rintro ⟨k, z1, z2⟩
        by_cases q : k = i
        · subst q; exact z2 h
        · exact h3 ⟨k, by omega, z2⟩
      · have h : ¬ w1.1 54 ((39 : Int32) * nI n + 13 * nI p + x4).toNatClampNeg = -5 := h
        rw [ce] at h
        conv => whnf
        refine ⟨i_in 2496 e (by omega) (by decide), ?_⟩
        conv => whnf
        exact qq_wk S (nx 1 (Or.inl ⟨rfl, i, by omega, h⟩)) ⟨rfl, rfl, rfl, rfl, rfl, trivial⟩
theorem hk_X8_forget {P : Option Value → qq_w → Prop} {K : Nat → qq_L → List Value → qq_w → Prop} (S : qq_Sat ww_sh ww_ro cs_X8_forget (qq_at 125 kd_X8_forget) (some .int) P K) {pc : Nat} {lv : qq_L} {st : List Value} {w : qq_w} (h : H_X8_forget P pc lv st w) : K pc lv st w := by
  obtain ⟨rfl, rfl, n, p, h0, hn, hp, h1, h2⟩ := h
  exact qq_wk S (lp_mforget S hn hp h1 h2 13 0 rfl _ _ w rfl (Or.inr ⟨rfl, fun ⟨k, z, _⟩ => absurd z (by omega)⟩) qq_only_rf (fun j => by rw [if_neg (by omega)])) h0
theorem bd_X8_forget : ∀ As w P K, qq_Sat ww_sh ww_ro cs_X8_forget (qq_at 125 kd_X8_forget) (some .int) P K → T_X8_forget As w P → K 0 (lv_args 0 As) [] w := by
  intro As w P K S h
  unfold T_X8_forget at h
  split at h
  · exact qq_go_semi S (fun pc lv st w z => hk_X8_forget S z) h
  · exact h.elim
theorem ha_X8_forget : ∀ As w P, T_X8_forget As w P → qq_wd As ≤ 5 := by
  intro As w P h
  unfold T_X8_forget at h
  split at h
  · exact Nat.le_of_ble_eq_true rfl
  · exact h.elim
theorem hv_X8_forget : ∀ As w P, T_X8_forget As w P → ∃ (k : Nat) (r : List Value) (fs : List Nat), As = .ref k :: r ∧ ww_sh[k]? = some (.inr (8, fs)) := by
  intro As w P h
  unfold T_X8_forget at h
  split at h
  · exact ⟨_, _, _, rfl, rfl⟩
  · exact h.elim
set_option maxRecDepth 100000 in
theorem M_X8_forget (l : Launch) : qq_M l ww_T ww_N vwCl ww_sh ww_ro ww_zs yX8_forget cX8_forget 5 (some .int) (ww_rm 2) T_X8_forget := by
  refine qq_mk (host := RX7) (is := ki_X8_forget) (cs := cs_X8_forget) (by decide) ww_k1 wl_X8 ww_so ww_so2 kc_X8_forget kv_X8_forget kg_X8_forget ?_ ha_X8_forget bd_X8_forget
  intro k i q hi hq
  match k, hi, hq with
  | 0, hi, hq => cases hi; cases hq; exact fun p e s m args below meth c D tys tC ad Q pc X hdg => qq_cV (ci := 8) X ww_gd (M_X8_isNode l) kf_X8_isNode.1 (Or.inl (ww_a5 (i := 125) (w := Cond.methodLink RX8 144 yX8_isNode) rfl rfl)) kf_X8_isNode.2.1 kf_X8_isNode.2.2.1 kf_X8_isNode.2.2.2 ⟨by decide, by decide, by decide +kernel⟩ rfl rfl rfl ⟨by decide, by decide⟩ ⟨Nat.le_refl _, Nat.le_refl _⟩ hv_X8_isNode hdg
  | 1, hi, hq => cases hi; cases hq; exact fun p e s m args below meth c D tys tC ad Q pc X hdg => qq_cS X ww_gd (M_X8_in l) kf_X8_in.1 (Or.inl (ww_a5 (i := 76) (w := Cond.methodLink RX8 105 yX8_in) rfl rfl)) kf_X8_in.2.1 kf_X8_in.2.2 ⟨by decide, by decide, by decide +kernel⟩ rfl rfl ⟨by decide, by decide⟩ ⟨Nat.le_refl _, Nat.le_refl _⟩ hdg
  | 2, hi, hq => cases hi; cases hq; exact fun p e s m args below meth c D tys tC ad Q pc X hdg => qq_cV (ci := 8) X ww_gd (M_X8_meets l) kf_X8_meets.1 (Or.inl (ww_a5 (i := 117) (w := Cond.methodLink RX8 137 yX8_meets) rfl rfl)) kf_X8_meets.2.1 kf_X8_meets.2.2.1 kf_X8_meets.2.2.2 ⟨by decide, by decide, by decide +kernel⟩ rfl rfl rfl ⟨by decide, by decide⟩ ⟨Nat.le_refl _, Nat.le_refl _⟩ hv_X8_meets hdg
  | 3, hi, hq => cases hi; cases hq; exact fun p e s m args below meth c D tys tC ad Q pc X hdg => qq_cV (ci := 8) X ww_gd (M_X8_anew l) kf_X8_anew.1 (Or.inl (ww_a5 (i := 83) (w := Cond.methodLink RX8 116 yX8_anew) rfl rfl)) kf_X8_anew.2.1 kf_X8_anew.2.2.1 kf_X8_anew.2.2.2 ⟨by decide, by decide, by decide +kernel⟩ rfl rfl rfl ⟨by decide, by decide⟩ ⟨Nat.le_refl _, Nat.le_refl _⟩ hv_X8_anew hdg
  | n + 4, hi, hq => simp [cs_X8_forget] at hq
abbrev cs_X8_share : List (Nat × qq_t) := [(3, T_X8_in), (1, T_X8_isSolved), (2, T_X8_holdingAt), (2, T_X8_meets)]
abbrev mAllB (w : qq_w) (n : Nat) : Int32 := qq_or (w.1 56) (13 * n) 13 &&& 8190
abbrev mSomB (w : qq_w) (f : Int32) (n : Nat) : Int32 := qq_or (w.1 56) (13 * n) 13 &&& ((1 : Int32) <<< (f &&& 31))
def H_X8_share (P : Option Value → qq_w → Prop) (pc : Nat) (lv : qq_L) (st : List Value) (w : qq_w) : Prop := pc = 29 ∧ st = [] ∧ ∃ f, qq_le [(0, .ref 8), (1, .int f), (2, .int 0), (3, .int 0), (4, .int 0)] lv ∧ vp_in f 13 ∧ 1 ≤ qn f ∧ vp_in (w.1 8 8) 65 ∧ (cCount (mAllB w) (qn (w.1 8 8)) = 0 → P (some (.int (-3))) (qq_ui (qq_ui w 8 0 4) 36 4 (w.1 36 4 + 1))) ∧ (¬ cCount (mAllB w) (qn (w.1 8 8)) = 0 → P (some (.int (1000 * nI (cCount (mSomB w f) (qn (w.1 8 8))) / nI (cCount (mAllB w) (qn (w.1 8 8)))))) w)
def T_X8_share : qq_t := fun As w P => match As with
  | [.ref 8, .int a0] => qq_go ww_sh ww_ro cs_X8_share (qq_at 113 kd_X8_share) (some .int) (fun pc => Nat.beq pc 29) P (H_X8_share P) 65 0 (lv_args 0 [.ref 8, .int a0]) [] w
  | _ => False
theorem b_8190 (i : Nat) : bt 8190 i = decide (1 ≤ i ∧ i < 13) := by
  rcases Nat.lt_or_ge i 32 with h | h
  · exact (by decide +kernel : ∀ i, i < 32 → bt 8190 i = decide (1 ≤ i ∧ i < 13)) i h
  · rw [b_big h, decide_eq_false (by omega)]
theorem b_bit (h : Int32) {g : Nat} (hg : g < 31) : (h >>> (nI g &&& 31)) &&& 1 = nI (if bt h g then 1 else 0) := by
  cases z : bt h g with
  | true => exact (b_has1 hg h).mpr z
  | false => exact (b_has hg h).mpr z
theorem sh_41 {P : Option Value → qq_w → Prop} {K : Nat → qq_L → List Value → qq_w → Prop} (S : qq_Sat ww_sh ww_ro cs_X8_share (qq_at 113 kd_X8_share) (some .int) P K) {w : qq_w} {f x4 : Int32} {n fn A B : Nat} (ef : f = nI fn) (hf : fn < 13) (hf1 : 1 ≤ fn) (e4 : x4 = nI n) (hn : n < 64)
    (hk : ∀ x2 x3 : Int32, x2 = nI (B + pcb (mSomB w f n) 13) → x3 = nI (A + pcb (mAllB w n) 13) → K 29 [(0, .ref 8), (1, .int f), (2, .int x2), (3, .int x3), (4, .int (x4 + 1))] [] w) :
    ∀ m i, i + m = 13 → 1 ≤ i → ∀ x2 x3 x5 : Int32, x5 = nI i → x2 = nI (B + pcb (mSomB w f n) i) → x3 = nI (A + pcb (mAllB w n) i) → K 41 [(0, .ref 8), (1, .int f), (2, .int x2), (3, .int x3), (4, .int x4), (5, .int x5)] [] w := by
  have q4 : qn x4 = n := by rw [e4]; exact qn_nI (by omega)
  intro m
  induction m with
  | zero =>
    intro i hi h1 x2 x3 x5 e5 h2 h3
    have : i = 13 := by omega
    subst this
    refine qq_go_ok S (fun pc => Nat.beq pc 41 || Nat.beq pc 29) 60 ?_
    conv => whnf
    refine br_t (i_ge 13 e5 (by omega) (by omega)) ?_
    conv => whnf
    exact qq_wk S (hk x2 x3 h2 h3) ⟨rfl, rfl, rfl, rfl, rfl, trivial⟩
  | succ m ih =>
    intro i hi h1 x2 x3 x5 e5 h2 h3
    have sA : pcb (mAllB w n) (i + 1) = pcb (mAllB w n) i + (if bt (qq_or (w.1 56) (13 * n) 13) i then 1 else 0) := by
      show pcb (mAllB w n) i + _ = _
      rw [b_and, b_8190, decide_eq_true (by omega), Bool.and_true]
    have sB : pcb (mSomB w f n) (i + 1) = pcb (mSomB w f n) i + (if i = fn then (if bt (qq_or (w.1 56) (13 * n) 13) i then 1 else 0) else 0) := by
      show pcb (mSomB w f n) i + _ = _
      rw [b_and, ef, b_one (by omega)]
      by_cases z : i = fn
      · rw [decide_eq_true z, Bool.and_true, if_pos z]
      · rw [decide_eq_false z, Bool.and_false, if_neg z]
        rfl
    have eb : (qq_or (w.1 56) (13 * qn x4) 13 >>> (x5 &&& 31)) &&& 1 = nI (if bt (qq_or (w.1 56) (13 * n) 13) i then 1 else 0) := by
      rw [q4, e5]; exact b_bit _ (by omega)
    refine qq_go_ok S (fun pc => Nat.beq pc 41 || Nat.beq pc 29) 60 ?_
    conv => whnf
    refine br_f (i_nge 13 e5 (by omega) (by omega)) ?_
    conv => whnf
    refine ⟨i_in 64 e4 hn (by decide), ?_⟩
    conv => whnf
    refine ⟨fun h => ?_, fun h => ?_⟩
    · have hne : ¬ i = fn := fun z => h (by rw [e5, ef, z])
      conv => whnf
      refine qq_wk S (ih (i + 1) (by omega) (by omega) _ _ _ (i_s e5) ?_ ?_) ⟨rfl, rfl, rfl, rfl, rfl, rfl, trivial⟩
      · rw [sB, if_neg hne, h2]
        show nI _ + nI 0 = _
        rw [nI_add]
        rfl
      · rw [sA, h3, eb, nI_add, Nat.add_assoc]
    · have hne : i = fn := by
        rw [e5, ef] at h
        exact (nI_eq (by omega) (by omega)).mp h
      conv => whnf
      refine qq_wk S (ih (i + 1) (by omega) (by omega) _ _ _ (i_s e5) ?_ ?_) ⟨rfl, rfl, rfl, rfl, rfl, rfl, trivial⟩
      · rw [sB, if_pos hne, h2, eb, nI_add, Nat.add_assoc]
      · rw [sA, h3, eb, nI_add, Nat.add_assoc]
theorem sh_29 {P : Option Value → qq_w → Prop} {K : Nat → qq_L → List Value → qq_w → Prop} (S : qq_Sat ww_sh ww_ro cs_X8_share (qq_at 113 kd_X8_share) (some .int) P K) {w : qq_w} {f : Int32} {N fn : Nat} (ef : f = nI fn) (hf : fn < 13) (hf1 : 1 ≤ fn) (eN : w.1 8 8 = nI N) (hN : N ≤ 64)
    (h0 : cCount (mAllB w) N = 0 → P (some (.int (-3))) (qq_ui (qq_ui w 8 0 4) 36 4 (w.1 36 4 + 1))) (h1 : ¬ cCount (mAllB w) N = 0 → P (some (.int (1000 * nI (cCount (mSomB w f) N) / nI (cCount (mAllB w) N)))) w) :
    ∀ m i, i + m = N → ∀ x2 x3 x4 : Int32, x4 = nI i → x2 = nI (cCount (mSomB w f) i) → x3 = nI (cCount (mAllB w) i) → K 29 [(0, .ref 8), (1, .int f), (2, .int x2), (3, .int x3), (4, .int x4)] [] w := by
  intro m
  induction m with
  | zero =>
    intro i hi x2 x3 x4 e4 h2 h3
    have : i = N := by omega
    subst this
    have hle := cCount_le (mAllB w) i
    refine qq_go_ok S (fun pc => Nat.beq pc 29) 60 ?_
    conv => whnf
    refine br_t (i_ge' e4 eN (by omega) (by omega)) ?_
    conv => whnf
    refine ⟨fun h => ?_, fun h => ?_⟩
    · have hz : ¬ cCount (mAllB w) i = 0 := fun z => h (by rw [h3, z]; rfl)
      conv => whnf
      refine ⟨h, ?_⟩
      conv => whnf
      rw [h2, h3]
      exact h1 hz
    · have hz : cCount (mAllB w) i = 0 := by
        rw [h3] at h
        exact (nI_eq (b := 0) (by omega) (by omega)).mp h
      conv => whnf
      refine ⟨i_in 6 (k := 4) rfl (by omega) (by decide), ?_⟩
      conv => whnf
      refine ⟨i_in 6 (k := 4) rfl (by omega) (by decide), ?_⟩
      conv => whnf
      exact h0 hz
  | succ m ih =>
    intro i hi x2 x3 x4 e4 h2 h3
    refine qq_go_ok S (fun pc => Nat.beq pc 41) 60 ?_
    conv => whnf
    refine br_f (i_lt' e4 eN (by omega) (by omega)) ?_
    conv => whnf
    refine qq_wk S (sh_41 S (A := cCount (mAllB w) i) (B := cCount (mSomB w f) i) ef hf hf1 e4 (by omega) (fun y2 y3 z2 z3 => ih (i + 1) (by omega) y2 y3 _ (i_s e4) z2 z3) 12 1 rfl (by omega) x2 x3 _ rfl ?_ ?_) ⟨rfl, rfl, rfl, rfl, rfl, rfl, trivial⟩
    · rw [h2]
      show _ = nI (_ + (0 + _))
      rw [b_and, ef, b_one (by omega), decide_eq_false (show ¬ 0 = fn by omega), Bool.and_false]
      rfl
    · rw [h3]
      show _ = nI (_ + (0 + _))
      rw [b_and, b_8190, decide_eq_false (show ¬ (1 ≤ 0 ∧ 0 < 13) by omega), Bool.and_false]
      rfl
theorem hk_X8_share {P : Option Value → qq_w → Prop} {K : Nat → qq_L → List Value → qq_w → Prop} (S : qq_Sat ww_sh ww_ro cs_X8_share (qq_at 113 kd_X8_share) (some .int) P K) {pc : Nat} {lv : qq_L} {st : List Value} {w : qq_w} (h : H_X8_share P pc lv st w) : K pc lv st w := by
  obtain ⟨rfl, rfl, f, h0, hf, hf1, hN, h1, h2⟩ := h
  obtain ⟨ef, hfn⟩ := qn_eq hf (by decide)
  obtain ⟨eN, hN⟩ := qn_eq hN (by decide)
  exact qq_wk S (sh_29 S ef hfn hf1 eN (by omega) h1 h2 _ 0 (Nat.zero_add _) _ _ _ rfl rfl rfl) h0
theorem bd_X8_share : ∀ As w P K, qq_Sat ww_sh ww_ro cs_X8_share (qq_at 113 kd_X8_share) (some .int) P K → T_X8_share As w P → K 0 (lv_args 0 As) [] w := by
  intro As w P K S h
  unfold T_X8_share at h
  split at h
  · exact qq_go_semi S (fun pc lv st w z => hk_X8_share S z) h
  · exact h.elim
theorem ha_X8_share : ∀ As w P, T_X8_share As w P → qq_wd As ≤ 7 := by
  intro As w P h
  unfold T_X8_share at h
  split at h
  · exact Nat.le_of_ble_eq_true rfl
  · exact h.elim
theorem hv_X8_share : ∀ As w P, T_X8_share As w P → ∃ (k : Nat) (r : List Value) (fs : List Nat), As = .ref k :: r ∧ ww_sh[k]? = some (.inr (8, fs)) := by
  intro As w P h
  unfold T_X8_share at h
  split at h
  · exact ⟨_, _, _, rfl, rfl⟩
  · exact h.elim
set_option maxRecDepth 100000 in
theorem M_X8_share (l : Launch) : qq_M l ww_T ww_N vwCl ww_sh ww_ro ww_zs yX8_share cX8_share 7 (some .int) (ww_rm 1) T_X8_share := by
  refine qq_mk (host := RX7) (is := ki_X8_share) (cs := cs_X8_share) (by decide) ww_k1 wl_X8 ww_so ww_so2 kc_X8_share kv_X8_share kg_X8_share ?_ ha_X8_share bd_X8_share
  intro k i q hi hq
  match k, hi, hq with
  | 0, hi, hq => cases hi; cases hq; exact fun p e s m args below meth c D tys tC ad Q pc X hdg => qq_cS X ww_gd (M_X8_in l) kf_X8_in.1 (Or.inl (ww_a5 (i := 76) (w := Cond.methodLink RX8 105 yX8_in) rfl rfl)) kf_X8_in.2.1 kf_X8_in.2.2 ⟨by decide, by decide, by decide +kernel⟩ rfl rfl ⟨by decide, by decide⟩ ⟨Nat.le_refl _, Nat.le_refl _⟩ hdg
  | 1, hi, hq => cases hi; cases hq; exact fun p e s m args below meth c D tys tC ad Q pc X hdg => qq_cV (ci := 8) X ww_gd (M_X8_isSolved l) kf_X8_isSolved.1 (Or.inl (ww_a6 (i := 22) (w := Cond.methodLink RX8 243 yX8_isSolved) rfl rfl)) kf_X8_isSolved.2.1 kf_X8_isSolved.2.2.1 kf_X8_isSolved.2.2.2 ⟨by decide, by decide, by decide +kernel⟩ rfl rfl rfl ⟨by decide, by decide⟩ ⟨Nat.le_refl _, Nat.le_refl _⟩ hv_X8_isSolved hdg
  | 2, hi, hq => cases hi; cases hq; exact fun p e s m args below meth c D tys tC ad Q pc X hdg => qq_cV (ci := 8) X ww_gd (M_X8_holdingAt l) kf_X8_holdingAt.1 (Or.inl (ww_a6 (i := 30) (w := Cond.methodLink RX8 246 yX8_holdingAt) rfl rfl)) kf_X8_holdingAt.2.1 kf_X8_holdingAt.2.2.1 kf_X8_holdingAt.2.2.2 ⟨by decide, by decide, by decide +kernel⟩ rfl rfl rfl ⟨by decide, by decide⟩ ⟨Nat.le_refl _, Nat.le_refl _⟩ hv_X8_holdingAt hdg
  | 3, hi, hq => cases hi; cases hq; exact fun p e s m args below meth c D tys tC ad Q pc X hdg => qq_cV (ci := 8) X ww_gd (M_X8_meets l) kf_X8_meets.1 (Or.inl (ww_a5 (i := 117) (w := Cond.methodLink RX8 137 yX8_meets) rfl rfl)) kf_X8_meets.2.1 kf_X8_meets.2.2.1 kf_X8_meets.2.2.2 ⟨by decide, by decide, by decide +kernel⟩ rfl rfl rfl ⟨by decide, by decide⟩ ⟨Nat.le_refl _, Nat.le_refl _⟩ hv_X8_meets hdg
  | n + 4, hi, hq => simp [cs_X8_share] at hq
