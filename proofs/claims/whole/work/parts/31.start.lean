theorem cTgt_congr {w w1 : qq_w} (h : ∀ k, k ∈ [2, 9, 10, 11, 13, 14, 18] → w1.1 k = w.1 k) (n p : Nat) (f x : Int32) : cTgt w1 n p f x ↔ cTgt w n p f x := by
  have h2 := h 2 (by simp)
  have h9 := h 9 (by simp)
  have h10 := h 10 (by simp)
  have h11 := h 11 (by simp)
  have h13 := h 13 (by simp)
  have h14 := h 14 (by simp)
  have h18 := h 18 (by simp)
  unfold cTgt cStmt cAcross cBack cInto cX
  rw [h2, h9, h10, h11, h13, h14, h18]
theorem cFN_congr {w w1 : qq_w} (h : ∀ k, k ∈ [2, 9, 10, 11, 13, 14, 18] → w1.1 k = w.1 k) {n : Nat} (hn : cFN w n) : cFN w1 n := by
  have h9 := h 9 (by simp)
  have h10 := h 10 (by simp)
  have h13 := h 13 (by simp)
  unfold cFN cX at *
  rw [h9, h10, h13]
  exact hn
/-- the facts at the beginning -/
def cBegin (w : qq_w) : Int32 := if w.1 2 2 = 1 then (31 : Int32) ||| (((1 : Int32) <<< ((5 + w.1 9 0) &&& 31)) - ((1 : Int32) <<< ((5 + 0) &&& 31))) else if w.1 2 2 = 2 then (1 : Int32) ||| w.1 2 3 else 1
theorem cBegin_congr {w w1 : qq_w} (h2 : w1.1 2 = w.1 2) (h9 : w1.1 9 = w.1 9) : cBegin w1 = cBegin w := by
  unfold cBegin
  rw [h2, h9]
/-- how many places of steps a node has -/
def cParts (w : qq_w) (n : Nat) : Nat := if cX w n 1 = 9 then 39 else 13
def cStart (w : qq_w) (N : Nat) (w' : qq_w) : Prop := qq_only [3, 19, 20, 21] w w' ∧ (∀ j, j ≠ 5 → j ≠ 7 → w'.1 3 j = w.1 3 j) ∧ w'.1 3 7 = 1 ∧ (∀ j, fs (w'.1 19 j)) ∧ (∀ n i, n < N → i < cParts w n → cTgt w n (i / 13) (nI (i % 13)) (w'.1 19 (39 * n + i))) ∧ (∃ f, cW w' f) ∧ ∀ j e, j < 832 → (bt (w'.1 20 j) e = true ↔ e < 13 ∧ j = 13 * qn (w.1 12 0) + e ∧ bt (cBegin w) e = true)
abbrev cs_X5_start : List (Nat × qq_t) := [(2, T_J7_fill_53178), (2, T_X3_isCall), (4, T_X1_targets), (1, T_X1_beginning), (3, T_X5_addEntries)]
def T_X5_start : qq_t := fun As w P => match As with
  | [.ref 3] => ((vp_in (w.1 1 10) 65 ∧ (∀ n, n < qn (w.1 1 10) → cFN w n) ∧ (∀ n p f x, n < qn (w.1 1 10) → p < 3 → f < 13 → cTgt w n p (nI f) x → fs x) ∧ (∀ j, fs (w.1 19 j)) ∧ w.1 3 5 = 0 ∧ vp_in (w.1 12 0) 64)) ∧ ∀ w', cStart w (qn (w.1 1 10)) w' → P none w'
  | _ => False
theorem st_end {P : Option Value → qq_w → Prop} {K : Nat → qq_L → List Value → qq_w → Prop} (S : qq_Sat ww_sh ww_ro cs_X5_start (qq_at 107 kd_X5_start) none P K) {w w1 : qq_w} {x1 : Int32} {N l : Nat} (eN : w.1 1 10 = nI N) (hN : N ≤ 64) (el : w.1 12 0 = nI l) (hl : l < 64) (h1 : qq_only [3, 19, 20] w w1) (h3 : ∀ j, j ≠ 7 → w1.1 3 j = w.1 3 j) (h7 : w1.1 3 7 = 1) (h5 : w.1 3 5 = 0) (h19 : ∀ j, fs (w1.1 19 j)) (hs : ∀ n i, n < N → i < cParts w n → cTgt w n (i / 13) (nI (i % 13)) (w1.1 19 (39 * n + i))) (h20 : ∀ j, j < 832 → w1.1 20 j = 0)
    (e1 : x1 = nI N) (hq : ∀ w', cStart w N w' → P none w') : K 15 [(0, .ref 3), (1, .int x1)] [] w1 := by
  have o1 : w1.1 1 = w.1 1 := h1.2 1 (by simp)
  have o2 : w1.1 2 = w.1 2 := h1.2 2 (by simp)
  have o9 : w1.1 9 = w.1 9 := h1.2 9 (by simp)
  have o12 : w1.1 12 = w.1 12 := h1.2 12 (by simp)
  have eN1 : w1.1 1 10 = nI N := by rw [o1]; exact eN
  have el1 : w1.1 12 0 = nI l := by rw [o12]; exact el
  have hW : cW w1 0 := by
    refine ⟨by rw [h3 5 (by decide)]; exact h5, ⟨fun c hc => hc.1, fun i hi => absurd hi (by omega), fun c hc => ?_, fun i j hi => absurd hi (by omega)⟩⟩
    obtain ⟨z1, z2⟩ := hc
    rw [h20 (c / 13) (by omega), b_0] at z2
    cases z2
  have fin : ∀ b : Int32, b = cBegin w → ∀ w2, sAdd w1 w2 (fun j e => e < 13 ∧ j = 13 * qn (w1.1 12 (qn 0)) + e ∧ bt b e = true) → P none w2 := by
    intro b eb w2 h2
    refine hq w2 ⟨⟨h2.1.1.1.trans h1.1, fun q hq => ?_⟩, fun j z5 z7 => ?_, ?_, fun j => ?_, fun n i hn hi => ?_, sExt_W h2.1 ⟨0, hW⟩, fun j e hj => ?_⟩
    · rw [h2.1.1.2 q (fun z => hq (by simp at z ⊢; omega))]
      exact h1.2 q (fun z => hq (by simp at z ⊢; omega))
    · rw [h2.1.2.1 j z5, h3 j z7]
    · rw [h2.1.2.1 7 (by decide)]; exact h7
    · rw [h2.1.1.2 19 (by simp)]; exact h19 j
    · rw [h2.1.1.2 19 (by simp)]; exact hs n i hn hi
    · rw [h2.2 j e, h20 j hj, b_0, o12, eb]
      constructor
      · rintro (z | z)
        · cases z
        · exact z
      · exact Or.inr
  refine qq_go_ok S (fun _ => false) 60 ?_
  conv => whnf
  refine br_t (i_ge' e1 eN1 (by omega) (by omega)) ?_
  conv => whnf
  have hb : cBegin w1 = cBegin w := cBegin_congr o2 o9
  unfold cBegin at hb
  refine ⟨fun h => ?_, fun h => ?_⟩
  · conv => whnf
    refine ⟨fun h' => ?_, fun h' => ?_⟩
    · conv => whnf
      refine ⟨⟨⟨i_in 8 (k := 0) rfl (by omega) (by decide), i_in 64 el1 hl (by decide)⟩, ⟨0, hW⟩⟩, fun w2 h2 => ?_⟩
      conv => whnf
      exact fin 1 (by rw [if_neg h, if_neg h'] at hb; exact hb) w2 h2
    · conv => whnf
      refine ⟨⟨⟨i_in 8 (k := 0) rfl (by omega) (by decide), i_in 64 el1 hl (by decide)⟩, ⟨0, hW⟩⟩, fun w2 h2 => ?_⟩
      conv => whnf
      exact fin (1 ||| w1.1 2 3) (by rw [if_neg h, if_pos h'] at hb; exact hb) w2 h2
  · conv => whnf
    refine ⟨i_in 8 (k := 0) rfl (by omega) (by decide), ?_⟩
    conv => whnf
    refine ⟨⟨⟨i_in 8 (k := 0) rfl (by omega) (by decide), i_in 64 el1 hl (by decide)⟩, ⟨0, hW⟩⟩, fun w2 h2 => ?_⟩
    conv => whnf
    exact fin _ (by rw [if_pos h] at hb; exact hb) w2 h2
theorem st_in {P : Option Value → qq_w → Prop} {K : Nat → qq_L → List Value → qq_w → Prop} (S : qq_Sat ww_sh ww_ro cs_X5_start (qq_at 107 kd_X5_start) none P K) {w : qq_w} {x1 x2 : Int32} {N n q : Nat} (hN : N ≤ 64) (hn : n < N) (e1 : x1 = nI n) (hq2 : q = 1 ∨ q = 3) (e2 : x2 = nI q) (hparts : cParts w n = 13 * q) (hfn : cFN w n) (hfs : ∀ p f x, p < 3 → f < 13 → cTgt w n p (nI f) x → fs x) {w0 : qq_w} (h0 : qq_only [3, 19, 20] w w0) (h19 : ∀ j, fs (w0.1 19 j))
    (hk : ∀ w1 : qq_w, qq_only [19] w0 w1 → (∀ j, fs (w1.1 19 j)) → (∀ j, ¬ (39 * n ≤ j ∧ j < 39 * n + 39) → w1.1 19 j = w0.1 19 j) → (∀ i, i < 13 * q → cTgt w n (i / 13) (nI (i % 13)) (w1.1 19 (39 * n + i))) → ∀ y1 : Int32, y1 = nI (n + 1) → K 15 [(0, .ref 3), (1, .int y1)] [] w1) :
    ∀ m i, i + m = 13 * q → ∀ (x3 : Int32) (w1 : qq_w), x3 = nI i → qq_only [19] w0 w1 → (∀ j, fs (w1.1 19 j)) → (∀ j, ¬ (39 * n ≤ j ∧ j < 39 * n + 39) → w1.1 19 j = w0.1 19 j) → (∀ i', i' < i → cTgt w n (i' / 13) (nI (i' % 13)) (w1.1 19 (39 * n + i'))) → K 45 [(0, .ref 3), (1, .int x1), (2, .int x2), (3, .int x3)] [] w1 := by
  have hq39 : 13 * q ≤ 39 := by omega
  intro m
  have e213 : x2 * 13 = nI (13 * q) := by
    have : x2 * nI 13 = nI (13 * q) := by rw [e2, pk_mul, Nat.mul_comm]
    exact this
  induction m with
  | zero =>
    intro i hi x3 w1 e3 h1 h2 h3 h4
    refine qq_go_ok S (fun pc => Nat.beq pc 45 || Nat.beq pc 15) 60 ?_
    conv => whnf
    refine br_t (i_ge' e3 e213 (by omega) (by omega)) ?_
    conv => whnf
    refine qq_wk S (hk w1 h1 h2 h3 (fun i' hi' => h4 i' (by omega)) _ (i_s e1)) ⟨rfl, rfl, trivial⟩
  | succ m ih =>
    intro i hi x3 w1 e3 h1 h2 h3 h4
    have ediv : x3 / 13 = nI (i / 13) := by
      have : x3 / nI 13 = nI (i / 13) := by rw [e3]; exact pk_div (by omega) (by omega) (by omega)
      exact this
    have erem : x3 - x3 / 13 * 13 = nI (i % 13) := by
      have : x3 - x3 / nI 13 * nI 13 = nI (i % 13) := by rw [e3]; exact pk_rem (by omega) (by omega) (by omega)
      exact this
    have eidx : x1 * 3 * 13 + x3 = nI (39 * n + i) := by
      have : x1 * nI 3 * nI 13 + x3 = nI (39 * n + i) := by
        rw [e1, e3, pk_mul, pk_mul, nI_add]
        congr 1
        omega
      exact this
    have hc : ∀ k, k ∈ [2, 9, 10, 11, 13, 14, 18] → w1.1 k = w.1 k := by
      intro k hk
      have hk' : k ∉ [19] ∧ k ∉ [3, 19, 20] := by
        simp at hk ⊢
        omega
      rw [h1.2 k hk'.1, h0.2 k hk'.2]
    have q1 : qn x1 = n := by rw [e1]; exact qn_nI (by omega)
    refine qq_go_ok S (fun pc => Nat.beq pc 45 || Nat.beq pc 15) 60 ?_
    conv => whnf
    refine br_f (i_lt' e3 e213 (by omega) (by omega)) ?_
    conv => whnf
    refine ⟨by decide, ?_⟩
    conv => whnf
    refine ⟨by decide, ?_⟩
    conv => whnf
    refine ⟨⟨i_in 64 e1 (by omega) (by decide), i_in 3 ediv (by omega) (by decide), i_in 13 erem (by omega) (by decide), by rw [q1]; exact cFN_congr hc hfn⟩, fun x hx => ?_⟩
    conv => whnf
    have hx : cTgt w n (i / 13) (nI (i % 13)) x := by
      have := (cTgt_congr hc _ _ _ _).mp hx
      rw [q1, ediv, qn_nI (by omega)] at this
      have er2 : x3 - nI (i / 13) * 13 = nI (i % 13) := by rw [← ediv]; exact erem
      rw [er2] at this
      exact this
    refine ⟨i_in 2496 eidx (by omega) (by decide), ?_⟩
    conv => whnf
    have hput : ∀ j, (qq_ui w1 19 (x1 * 3 * 13 + x3).toNatClampNeg x).1 19 j = if j = 39 * n + i then x else w1.1 19 j := by
      intro j
      show upd (w1.1 19) (x1 * 3 * 13 + x3).toNatClampNeg x j = _
      rw [i_c eidx (by omega), upd_at]
    refine qq_wk S (ih (i + 1) (by omega) _ _ (i_s e3) (qq_only_ui h1 (by simp)) (fun j => ?_) (fun j hj => ?_) (fun i' hi' => ?_)) ⟨rfl, rfl, rfl, rfl, trivial⟩
    · rw [hput j]
      split
      · exact hfs _ _ _ (by omega) (by omega) hx
      · exact h2 j
    · rw [hput j, if_neg (by omega)]
      exact h3 j hj
    · rw [hput]
      by_cases z : i' = i
      · subst z
        rw [if_pos rfl]
        exact hx
      · rw [if_neg (by omega)]
        exact h4 i' (by omega)
theorem st_out {P : Option Value → qq_w → Prop} {K : Nat → qq_L → List Value → qq_w → Prop} (S : qq_Sat ww_sh ww_ro cs_X5_start (qq_at 107 kd_X5_start) none P K) {w : qq_w} {N l : Nat} (eN : w.1 1 10 = nI N) (hN : N ≤ 64) (el : w.1 12 0 = nI l) (hl : l < 64) (h5 : w.1 3 5 = 0) (hfn : ∀ n, n < N → cFN w n) (hfs : ∀ n p f x, n < N → p < 3 → f < 13 → cTgt w n p (nI f) x → fs x) (hq : ∀ w', cStart w N w' → P none w') :
    ∀ m n, n + m = N → ∀ (x1 : Int32) (w1 : qq_w), x1 = nI n → qq_only [3, 19, 20] w w1 → (∀ j, j ≠ 7 → w1.1 3 j = w.1 3 j) → w1.1 3 7 = 1 → (∀ j, fs (w1.1 19 j)) → (∀ n' i, n' < n → i < cParts w n' → cTgt w n' (i / 13) (nI (i % 13)) (w1.1 19 (39 * n' + i))) → (∀ j, j < 832 → w1.1 20 j = 0) → K 15 [(0, .ref 3), (1, .int x1)] [] w1 := by
  intro m
  induction m with
  | zero =>
    intro n hn x1 w1 e1 h1 h3 h7 h19 hs h20
    have : n = N := by omega
    subst this
    exact st_end S eN hN el hl h1 h3 h7 h5 h19 hs h20 e1 hq
  | succ m ih =>
    intro n hn x1 w1 e1 h1 h3 h7 h19 hs h20
    have eN1 : w1.1 1 10 = nI N := by rw [h1.2 1 (by simp)]; exact eN
    have i1 := nI_ml e1 (x := 1) (i := 1) rfl (nI_lit 10)
    have c1 : w1.1 13 (x1 * 10 + 1).toNatClampNeg = cX w n 1 := by rw [i_c i1 (by omega), h1.2 13 (by simp)]
    have L : ∀ (q : Nat) (x2 : Int32), (q = 1 ∨ q = 3) → x2 = nI q → cParts w n = 13 * q → K 45 [(0, .ref 3), (1, .int x1), (2, .int x2), (3, .int 0)] [] w1 := by
      intro q x2 hq2 e2 hparts
      refine st_in S hN (by omega) e1 hq2 e2 hparts (hfn n (by omega)) (fun p f x => hfs n p f x (by omega)) h1 h19 (fun w2 a1 a2 a3 a4 y1 ey => ?_) (13 * q) 0 (Nat.zero_add _) _ w1 rfl qq_only_rf h19 (fun _ _ => rfl) (fun i' z => absurd z (by omega))
      refine ih (n + 1) (by omega) y1 w2 ey ⟨a1.1.trans h1.1, fun k hk => ?_⟩ (fun j hj => ?_) ?_ a2 (fun n' i hn' hi => ?_) (fun j hj => ?_)
      · rw [a1.2 k (fun z => hk (by simp at z ⊢; omega))]
        exact h1.2 k hk
      · rw [a1.2 3 (by simp)]; exact h3 j hj
      · rw [a1.2 3 (by simp)]; exact h7
      · by_cases z : n' = n
        · subst z
          exact a4 i (by omega)
        · have : i < 39 := by
            have : cParts w n' ≤ 39 := by unfold cParts; split <;> omega
            omega
          rw [a3 _ (by omega)]
          exact hs n' i (by omega) hi
      · rw [a1.2 20 (by simp)]; exact h20 j hj
    refine qq_go_ok S (fun pc => Nat.beq pc 45 || Nat.beq pc 15) 60 ?_
    conv => whnf
    refine br_f (i_lt' e1 eN1 (by omega) (by omega)) ?_
    conv => whnf
    refine ⟨i_in 640 i1 (by omega) (by decide), ?_⟩
    conv => whnf
    refine ⟨fun h => ?_, fun h => ?_⟩
    · have h : ¬ w1.1 13 (x1 * 10 + 1).toNatClampNeg = 9 := h
      rw [c1] at h
      conv => whnf
      refine br_t rfl ?_
      conv => whnf
      exact qq_wk S (L 1 1 (Or.inl rfl) rfl (by unfold cParts; rw [if_neg h])) ⟨rfl, rfl, rfl, rfl, trivial⟩
    · have h : w1.1 13 (x1 * 10 + 1).toNatClampNeg = 9 := h
      rw [c1] at h
      conv => whnf
      refine br_f (by decide) ?_
      conv => whnf
      exact qq_wk S (L 3 3 (Or.inr rfl) rfl (by unfold cParts; rw [if_pos h])) ⟨rfl, rfl, rfl, rfl, trivial⟩
set_option maxHeartbeats 4000000 in
set_option maxRecDepth 100000 in
theorem bd_X5_start : ∀ As w P K, qq_Sat ww_sh ww_ro cs_X5_start (qq_at 107 kd_X5_start) none P K → T_X5_start As w P → K 0 (lv_args 0 As) [] w := by
  intro As w P K S h
  unfold T_X5_start at h
  split at h
  · skip
    obtain ⟨⟨hp, hfn, hfs, h19, h5, hl⟩, hq⟩ := h
    obtain ⟨eN, hN⟩ := qn_eq hp (by decide)
    obtain ⟨el, hl⟩ := qn_eq hl (by decide)
    refine qq_go_ok S (fun pc => Nat.beq pc 15) 60 ?_
    conv => whnf
    refine ⟨Or.inr rfl, ?_⟩
    conv => whnf
    refine ⟨Or.inr rfl, fun w1 h1 => ?_⟩
    conv => whnf
    refine qq_wk S (st_out S eN (by omega) el hl h5 hfn hfs hq (qn (w.1 1 10)) 0 (Nat.zero_add _) _ w1 rfl ⟨h1.1.1, fun k hk => ?_⟩ (fun j hj => ?_) ?_ (fun j => ?_) (fun n i z => absurd z (by omega)) (fun j hj => ?_)) ⟨rfl, rfl, trivial⟩
    · rw [h1.1.2 k (fun z => hk (by simp at z ⊢; omega))]
      have : k ≠ 3 := fun z => hk (by simp [z])
      simp only [qq_ui, va_up, this, if_false]
    · rw [h1.1.2 3 (by simp)]
      show upd (w.1 3) 7 1 j = _
      rw [upd_at, if_neg hj]
    · rw [h1.1.2 3 (by simp)]
      rfl
    · rw [h1.1.2 19 (by simp)]
      exact h19 j
    · rw [h1.2 j]
      exact if_pos hj
  · exact h.elim
theorem ha_X5_start : ∀ As w P, T_X5_start As w P → qq_wd As ≤ 4 := by
  intro As w P h
  unfold T_X5_start at h
  split at h
  · exact Nat.le_of_ble_eq_true rfl
  · exact h.elim
theorem hv_X5_start : ∀ As w P, T_X5_start As w P → ∃ (k : Nat) (r : List Value) (fs : List Nat), As = .ref k :: r ∧ ww_sh[k]? = some (.inr (5, fs)) := by
  intro As w P h
  unfold T_X5_start at h
  split at h
  · exact ⟨_, _, _, rfl, rfl⟩
  · exact h.elim
set_option maxRecDepth 100000 in
theorem M_X5_start (l : Launch) : qq_M l ww_T ww_N vwCl ww_sh ww_ro ww_zs yX5_start cX5_start 4 none (ww_rm 4) T_X5_start := by
  refine qq_mk (host := RX7) (is := ki_X5_start) (cs := cs_X5_start) (by decide) ww_k1 wl_X5 ww_so ww_so2 kc_X5_start kv_X5_start kg_X5_start ?_ ha_X5_start bd_X5_start
  intro k i q hi hq
  match k, hi, hq with
  | 0, hi, hq => cases hi; cases hq; exact fun p e s m args below meth c D tys tC ad Q pc X hdg => qq_cS X ww_gd (M_J7_fill_53178 l) kf_J7_fill_53178.1 (Or.inl (ww_a3 (i := 50) (w := Cond.methodLink RX5 53 yJ7_fill_53178) rfl rfl)) kf_J7_fill_53178.2.1 kf_J7_fill_53178.2.2 ⟨by decide, by decide, by decide +kernel⟩ rfl rfl ⟨by decide, by decide⟩ ⟨Nat.le_refl _, Nat.le_refl _⟩ hdg
  | 1, hi, hq => cases hi; cases hq; exact fun p e s m args below meth c D tys tC ad Q pc X hdg => qq_cV (ci := 3) X ww_gd (M_X3_isCall l) kf_X3_isCall.1 (Or.inl (ww_a3 (i := 51) (w := Cond.methodLink RX5 64 yX3_isCall) rfl rfl)) kf_X3_isCall.2.1 kf_X3_isCall.2.2.1 kf_X3_isCall.2.2.2 ⟨by decide, by decide, by decide +kernel⟩ rfl rfl rfl ⟨by decide, by decide⟩ ⟨Nat.le_refl _, Nat.le_refl _⟩ hv_X3_isCall hdg
  | 2, hi, hq => cases hi; cases hq; exact fun p e s m args below meth c D tys tC ad Q pc X hdg => qq_cV (ci := 1) X ww_gd (M_X1_targets l) kf_X1_targets.1 (Or.inl (ww_a3 (i := 52) (w := Cond.methodLink RX5 68 yX1_targets) rfl rfl)) kf_X1_targets.2.1 kf_X1_targets.2.2.1 kf_X1_targets.2.2.2 ⟨by decide, by decide, by decide +kernel⟩ rfl rfl rfl ⟨by decide, by decide⟩ ⟨Nat.le_refl _, Nat.le_refl _⟩ hv_X1_targets hdg
  | 3, hi, hq => cases hi; cases hq; exact fun p e s m args below meth c D tys tC ad Q pc X hdg => qq_cV (ci := 1) X ww_gd (M_X1_beginning l) kf_X1_beginning.1 (Or.inl (ww_a3 (i := 53) (w := Cond.methodLink RX5 74 yX1_beginning) rfl rfl)) kf_X1_beginning.2.1 kf_X1_beginning.2.2.1 kf_X1_beginning.2.2.2 ⟨by decide, by decide, by decide +kernel⟩ rfl rfl rfl ⟨by decide, by decide⟩ ⟨Nat.le_refl _, Nat.le_refl _⟩ hv_X1_beginning hdg
  | 4, hi, hq => cases hi; cases hq; exact fun p e s m args below meth c D tys tC ad Q pc X hdg => qq_cV (ci := 5) X ww_gd (M_X5_addEntries l) kf_X5_addEntries.1 (Or.inl (ww_a3 (i := 57) (w := Cond.methodLink RX5 78 yX5_addEntries) rfl rfl)) kf_X5_addEntries.2.1 kf_X5_addEntries.2.2.1 kf_X5_addEntries.2.2.2 ⟨by decide, by decide, by decide +kernel⟩ rfl rfl rfl ⟨by decide, by decide⟩ ⟨Nat.le_refl _, Nat.le_refl _⟩ hv_X5_addEntries hdg
  | n + 5, hi, hq => simp [cs_X5_start] at hq
