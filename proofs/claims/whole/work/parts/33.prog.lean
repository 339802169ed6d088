/-- a CALL lacks nothing -/
def cCW (w : qq_w) (c : Nat) : Prop := qq_full (w.1 14) (4 * c) (qn (cX w c 8)) ∧ cX w c 8 = w.1 10 (qn (cX w c 5))
abbrev cs_X3_isWhole : List (Nat × qq_t) := [(2, T_X3_isCall), (2, T_X3_isCallWhole)]
def T_X3_isWhole : qq_t := fun As w P => match As with
  | [.ref 1] => (vp_in (w.1 1 10) 65 ∧ ∀ c, c < qn (w.1 1 10) → cX w c 1 = 9 → vp_in (cX w c 8) 5 ∧ vp_in (cX w c 5) 8) ∧ (((∀ c, c < qn (w.1 1 10) → cX w c 1 = 9 → cCW w c) ∧ 0 < w.1 1 9) → P (some (.int 1)) w) ∧ (¬ ((∀ c, c < qn (w.1 1 10) → cX w c 1 = 9 → cCW w c) ∧ 0 < w.1 1 9) → P (some (.int 0)) w)
  | _ => False
theorem lp_isWhole {P : Option Value → qq_w → Prop} {K : Nat → qq_L → List Value → qq_w → Prop} (S : qq_Sat ww_sh ww_ro cs_X3_isWhole (qq_at 47 kd_X3_isWhole) (some .boolean) P K) {w : qq_w} {N : Nat} (eN : w.1 1 10 = nI N) (hN : N ≤ 64) (hc : ∀ c, c < N → cX w c 1 = 9 → vp_in (cX w c 8) 5 ∧ vp_in (cX w c 5) 8)
    (h1 : ((∀ c, c < N → cX w c 1 = 9 → cCW w c) ∧ 0 < w.1 1 9) → P (some (.int 1)) w) (h0 : ¬ ((∀ c, c < N → cX w c 1 = 9 → cCW w c) ∧ 0 < w.1 1 9) → P (some (.int 0)) w) :
    ∀ m i, i + m = N → (∀ c, c < i → cX w c 1 = 9 → cCW w c) → ∀ x1 : Int32, x1 = nI i → K 2 [(0, .ref 1), (1, .int x1)] [] w := by
  intro m
  induction m with
  | zero =>
    intro i hi hw x1 e1
    have : i = N := by omega
    subst this
    refine qq_go_ok S (fun pc => Nat.beq pc 2) 60 ?_
    conv => whnf
    refine br_t (i_ge' e1 eN (by omega) (by omega)) ?_
    conv => whnf
    refine ⟨fun h => ?_, fun h => ?_⟩
    · conv => whnf
      refine h0 fun z => ?_
      have h : w.1 1 9 ≤ 0 := h
      have z := z.2
      rw [i_le] at h
      rw [i_lt] at z
      omega
    · conv => whnf
      refine h1 ⟨hw, ?_⟩
      have h : ¬ w.1 1 9 ≤ 0 := h
      rw [i_le] at h
      rw [i_lt]
      omega
  | succ m ih =>
    intro i hi hw x1 e1
    have i1 := nI_ml e1 (x := 1) (i := 1) rfl (nI_lit 10)
    have c1 : w.1 13 (x1 * 10 + 1).toNatClampNeg = cX w i 1 := by rw [i_c i1 (by omega)]
    have q1 : qn x1 = i := by rw [e1]; exact qn_nI (by omega)
    have next : (cX w i 1 = 9 → cCW w i) → ∀ y1 : Int32, y1 = nI (i + 1) → K 2 [(0, .ref 1), (1, .int y1)] [] w := fun z y1 ey => ih (i + 1) (by omega) (fun c hc h9 => by
      by_cases q : c = i
      · subst q; exact z h9
      · exact hw c (by omega) h9) y1 ey
    refine qq_go_ok S (fun pc => Nat.beq pc 2) 60 ?_
    conv => whnf
    refine br_f (i_lt' e1 eN (by omega) (by omega)) ?_
    conv => whnf
    refine ⟨i_in 640 i1 (by omega) (by decide), ?_⟩
    conv => whnf
    refine ⟨fun h => ?_, fun h => ?_⟩
    · have h : ¬ w.1 13 (x1 * 10 + 1).toNatClampNeg = 9 := h
      rw [c1] at h
      conv => whnf
      refine br_t rfl ?_
      conv => whnf
      exact qq_wk S (next (fun z => absurd z h) _ (i_s e1)) ⟨rfl, rfl, trivial⟩
    · have h : w.1 13 (x1 * 10 + 1).toNatClampNeg = 9 := h
      rw [c1] at h
      obtain ⟨v8, v5⟩ := hc i (by omega) h
      conv => whnf
      refine br_f (by decide) ?_
      conv => whnf
      have v8' : vp_in (w.1 13 (10 * qn x1 + 8)) 5 := by rw [q1]; exact v8
      have v5' : vp_in (w.1 13 (10 * qn x1 + 5)) 8 := by rw [q1]; exact v5
      refine ⟨⟨i_in 64 e1 (by omega) (by decide), v8', v5'⟩, fun z => ?_, fun z => ?_⟩
      · rw [q1] at z
        conv => whnf
        refine br_nt (by decide) ?_
        conv => whnf
        exact qq_wk S (next (fun _ => z) _ (i_s e1)) ⟨rfl, rfl, trivial⟩
      · rw [q1] at z
        conv => whnf
        refine br_nf rfl ?_
        conv => whnf
        exact h0 fun y => z (y.1 i (by omega) h)
set_option maxHeartbeats 4000000 in
set_option maxRecDepth 100000 in
theorem bd_X3_isWhole : ∀ As w P K, qq_Sat ww_sh ww_ro cs_X3_isWhole (qq_at 47 kd_X3_isWhole) (some .boolean) P K → T_X3_isWhole As w P → K 0 (lv_args 0 As) [] w := by
  intro As w P K S h
  unfold T_X3_isWhole at h
  split at h
  · skip
    obtain ⟨⟨hp, hp2⟩, hq1, hq0⟩ := h
    obtain ⟨eN, hN⟩ := qn_eq hp (by decide)
    refine qq_go_ok S (fun pc => Nat.beq pc 2) 60 ?_
    conv => whnf
    exact qq_wk S (lp_isWhole S eN (by omega) hp2 hq1 hq0 _ 0 (Nat.zero_add _) (fun c z => absurd z (by omega)) _ rfl) ⟨rfl, rfl, trivial⟩
  · exact h.elim
theorem ha_X3_isWhole : ∀ As w P, T_X3_isWhole As w P → qq_wd As ≤ 2 := by
  intro As w P h
  unfold T_X3_isWhole at h
  split at h
  · exact Nat.le_of_ble_eq_true rfl
  · exact h.elim
theorem hv_X3_isWhole : ∀ As w P, T_X3_isWhole As w P → ∃ (k : Nat) (r : List Value) (fs : List Nat), As = .ref k :: r ∧ ww_sh[k]? = some (.inr (3, fs)) := by
  intro As w P h
  unfold T_X3_isWhole at h
  split at h
  · exact ⟨_, _, _, rfl, rfl⟩
  · exact h.elim
set_option maxRecDepth 100000 in
theorem M_X3_isWhole (l : Launch) : qq_M l ww_T ww_N vwCl ww_sh ww_ro ww_zs yX3_isWhole cX3_isWhole 2 (some .boolean) (ww_rm 2) T_X3_isWhole := by
  refine qq_mk (host := RX7) (is := ki_X3_isWhole) (cs := cs_X3_isWhole) (by decide) ww_k1 wl_X3 ww_so ww_so2 kc_X3_isWhole kv_X3_isWhole kg_X3_isWhole ?_ ha_X3_isWhole bd_X3_isWhole
  intro k i q hi hq
  match k, hi, hq with
  | 0, hi, hq => cases hi; cases hq; exact fun p e s m args below meth c D tys tC ad Q pc X hdg => qq_cV (ci := 3) X ww_gd (M_X3_isCall l) kf_X3_isCall.1 (Or.inl (ww_a2 (i := 204) (w := Cond.methodLink RX3 54 yX3_isCall) rfl rfl)) kf_X3_isCall.2.1 kf_X3_isCall.2.2.1 kf_X3_isCall.2.2.2 ⟨by decide, by decide, by decide +kernel⟩ rfl rfl rfl ⟨by decide, by decide⟩ ⟨Nat.le_refl _, Nat.le_refl _⟩ hv_X3_isCall hdg
  | 1, hi, hq => cases hi; cases hq; exact fun p e s m args below meth c D tys tC ad Q pc X hdg => qq_cV (ci := 3) X ww_gd (M_X3_isCallWhole l) kf_X3_isCallWhole.1 (Or.inl (ww_a3 (i := 38) (w := Cond.methodLink RX3 75 yX3_isCallWhole) rfl rfl)) kf_X3_isCallWhole.2.1 kf_X3_isCallWhole.2.2.1 kf_X3_isCallWhole.2.2.2 ⟨by decide, by decide, by decide +kernel⟩ rfl rfl rfl ⟨by decide, by decide⟩ ⟨Nat.le_refl _, Nat.le_refl _⟩ hv_X3_isCallWhole hdg
  | n + 2, hi, hq => simp [cs_X3_isWhole] at hq
abbrev cs_X3_addCall : List (Nat × qq_t) := [(3, T_X3_addNode), (4, T_X3_tell)]
theorem qq_addNode_ij {w w' : qq_w} {o k : Int32} (h : qq_addNode w o k w') (i j : Nat) (hj : j < 10) : w'.1 13 (10 * i + j) = if i = qn (w.1 1 10) then (if j = 0 then o else if j = 1 then k else -5) else w.1 13 (10 * i + j) := by
  have := h.2.2 (10 * i + j)
  rw [show (10 * i + j) / 10 = i by omega, show (10 * i + j) % 10 = j by omega] at this
  exact this
theorem upd_ij (f : Nat → Int32) {n c i j : Nat} (hc : c < 10) (hj : j < 10) (x : Int32) : upd f (10 * n + c) x (10 * i + j) = if i = n ∧ j = c then x else f (10 * i + j) := by
  rw [upd_at]
  by_cases h : i = n ∧ j = c
  · rw [if_pos h, if_pos (by omega)]
  · rw [if_neg h, if_neg (by omega)]
/-- a CALL and its RETURN come -/
def qq_addCall (w : qq_w) (o cal res rom : Int32) (w' : qq_w) : Prop := qq_only [1, 13, 14] w w' ∧ (∀ j, w'.1 1 j = if j = 10 then nI (qn (w.1 1 10) + 2) else if j = 12 then w.1 1 12 + 1 else w.1 1 j) ∧
  (∀ i j, j < 10 → w'.1 13 (10 * i + j) = if i = qn (w.1 1 10) then (if j = 0 then o else if j = 1 then 9 else if j = 5 then cal else if j = 6 then res else if j = 7 then nI (qn (w.1 1 10) + 1) else if j = 8 then rom else -5) else if i = qn (w.1 1 10) + 1 then (if j = 0 then o else if j = 1 then 10 else if j = 9 then nI (qn (w.1 1 10)) else -5) else w.1 13 (10 * i + j)) ∧
  ∀ j, w'.1 14 j = if 4 * qn (w.1 1 10) ≤ j ∧ j < 4 * qn (w.1 1 10) + 4 then -5 else w.1 14 j
def T_X3_addCall : qq_t := fun As w P => match As with
  | [.ref 1, .int o, .int cal, .int res, .int rom] => vp_in (w.1 1 10) 63 ∧ ∀ w', qq_addCall w o cal res rom w' → P (some (.int (w.1 1 10))) w'
  | _ => False
theorem lp_addCall {P : Option Value → qq_w → Prop} {K : Nat → qq_L → List Value → qq_w → Prop} (S : qq_Sat ww_sh ww_ro cs_X3_addCall (qq_at 107 kd_X3_addCall) (some .int) P K) {w : qq_w} {x5 : Int32} {n : Nat} (e5 : x5 = nI n) (hn : n < 64)
    (hq : ∀ w' : qq_w, w'.2 = w.2 → (∀ q, q ≠ 1 → q ≠ 14 → w'.1 q = w.1 q) → w'.1 1 = upd (w.1 1) 12 (w.1 1 12 + 1) → (∀ j, w'.1 14 j = if 4 * n ≤ j ∧ j < 4 * n + 4 then -5 else w.1 14 j) → P (some (.int x5)) w') :
    ∀ m i, i + m = 4 → ∀ (x7 : Int32) (w1 : qq_w), x7 = nI i → qq_only [14] w w1 → (∀ j, w1.1 14 j = if 4 * n ≤ j ∧ j < 4 * n + i then -5 else w.1 14 j) → K 68 [(0, .ref 1), (5, .int x5), (7, .int x7)] [] w1 := by
  intro m
  induction m with
  | zero =>
    intro i hi x7 w1 e7 h1 h2
    have : i = 4 := by omega
    subst this
    refine qq_go_ok S (fun pc => Nat.beq pc 68) 60 ?_
    conv => whnf
    refine br_t (i_ge 4 e7 (by omega) (by omega)) ?_
    conv => whnf
    have o1 : w1.1 1 = w.1 1 := h1.2 1 (by simp)
    refine hq _ h1.1 (fun q z1 z14 => ?_) ?_ h2
    · show va_up w1.1 1 _ q = _
      simp only [va_up, z1, if_false]
      exact h1.2 q (by simpa using z14)
    · show upd (w1.1 1) 12 (w1.1 1 12 + 1) = _
      rw [o1]
  | succ m ih =>
    intro i hi x7 w1 e7 h1 h2
    refine qq_go_ok S (fun pc => Nat.beq pc 68) 60 ?_
    conv => whnf
    refine br_f (i_nge 4 e7 (by omega) (by omega)) ?_
    conv => whnf
    have e := nI_ml e5 e7 (nI_lit 4)
    refine ⟨i_in 256 e (by omega) (by decide), ?_⟩
    conv => whnf
    refine qq_wk S (ih (i + 1) (by omega) _ _ (i_s e7) (qq_only_ui h1 (by simp)) (fun j => ?_)) ⟨rfl, rfl, rfl, trivial⟩
    show upd (w1.1 14) (x5 * 4 + x7).toNatClampNeg (-5) j = _
    rw [i_c e (by omega), upd_at, h2 j]
    (repeat' split) <;> first | rfl | omega
set_option maxHeartbeats 4000000 in
set_option maxRecDepth 100000 in
theorem bd_X3_addCall : ∀ As w P K, qq_Sat ww_sh ww_ro cs_X3_addCall (qq_at 107 kd_X3_addCall) (some .int) P K → T_X3_addCall As w P → K 0 (lv_args 0 As) [] w := by
  intro As w P K S h
  unfold T_X3_addCall at h
  split at h
  · rename_i o cal res rom
    obtain ⟨hp, hq⟩ := h
    obtain ⟨en, hn⟩ := qn_eq hp (by decide)
    refine qq_go_ok S (fun pc => Nat.beq pc 68) 80 ?_
    conv => whnf
    refine ⟨i_in 64 en (by omega) (by decide), fun w1 h1 => ?_⟩
    conv => whnf
    have e110 : w1.1 1 10 = nI (qn (w.1 1 10) + 1) := by rw [h1.2.1, upd_at, if_pos rfl]; exact i_s en
    have q110 : qn (w1.1 1 10) = qn (w.1 1 10) + 1 := by rw [e110]; exact qn_nI (by omega)
    refine ⟨i_in 64 e110 (by omega) (by decide), fun w2 h2 => ?_⟩
    conv => whnf
    have i5 := nI_ml en (x := 5) (i := 5) rfl (nI_lit 10)
    have i6 := nI_ml en (x := 6) (i := 6) rfl (nI_lit 10)
    have i7 := nI_ml en (x := 7) (i := 7) rfl (nI_lit 10)
    have i8 := nI_ml en (x := 8) (i := 8) rfl (nI_lit 10)
    have i9 := nI_ml e110 (x := 9) (i := 9) rfl (nI_lit 10)
    refine ⟨i_in 640 i5 (by omega) (by decide), ?_⟩
    conv => whnf
    refine ⟨i_in 640 i6 (by omega) (by decide), ?_⟩
    conv => whnf
    refine ⟨i_in 640 i7 (by omega) (by decide), ?_⟩
    conv => whnf
    refine ⟨i_in 640 i8 (by omega) (by decide), ?_⟩
    conv => whnf
    refine ⟨i_in 640 i9 (by omega) (by decide), ?_⟩
    conv => whnf
    refine qq_wk S (lp_addCall S en (by omega) (fun w' a0 a1 a2 a3 => hq w' ⟨⟨?_, fun q z => ?_⟩, fun j => ?_, fun i j hj => ?_, fun j => ?_⟩) 4 0 rfl _ _ rfl qq_only_rf (fun j => by rw [if_neg (by omega)])) ⟨rfl, rfl, rfl, trivial⟩
    · rw [a0]
      exact h2.1.1.trans h1.1.1
    · have z1 : q ≠ 1 := fun y => z (by simp [y])
      have z13 : q ≠ 13 := fun y => z (by simp [y])
      have z14 : q ≠ 14 := fun y => z (by simp [y])
      rw [a1 q z1 z14]
      simp only [qq_ui, va_up, z13, if_false]
      rw [h2.1.2 q (by simp [z1, z13]), h1.1.2 q (by simp [z1, z13])]
    · rw [a2]
      show upd (w2.1 1) 12 (w2.1 1 12 + 1) j = _
      rw [h2.2.1, h1.2.1]
      simp only [upd_at]
      by_cases z10 : j = 10
      · subst z10
        simp only [if_true, if_false, show (10 : Nat) ≠ 12 from by decide]
        rw [i_s en]
        exact i_s (i := qn (w.1 1 10) + 1) rfl
      · by_cases z12 : j = 12
        · subst z12; rfl
        · simp [z10, z12]
    · rw [a1 13 (by decide) (by decide)]
      show upd (upd (upd (upd (upd (w2.1 13) _ cal) _ res) _ _) _ rom) _ _ (10 * i + j) = _
      rw [i_c i5 (by omega), i_c i6 (by omega), i_c i7 (by omega), i_c i8 (by omega), i_c i9 (by omega)]
      rw [upd_ij _ (by omega) hj, upd_ij _ (by omega) hj, upd_ij _ (by omega) hj, upd_ij _ (by omega) hj, upd_ij _ (by omega) hj, qq_addNode_ij h2 i j hj, qq_addNode_ij h1 i j hj, q110]
      by_cases zi : i = qn (w.1 1 10)
      · have zi1 : ¬ i = qn (w.1 1 10) + 1 := by omega
        simp only [zi, zi1, true_and, if_true, show ¬ (qn (w.1 1 10) = qn (w.1 1 10) + 1) by omega, false_and, if_false]
        rw [e110]
        have hjc : j = 0 ∨ j = 1 ∨ j = 2 ∨ j = 3 ∨ j = 4 ∨ j = 5 ∨ j = 6 ∨ j = 7 ∨ j = 8 ∨ j = 9 := by omega
        rcases hjc with rfl | rfl | rfl | rfl | rfl | rfl | rfl | rfl | rfl | rfl <;> rfl
      · by_cases zi1 : i = qn (w.1 1 10) + 1
        · simp only [zi1, true_and, if_true, show ¬ (qn (w.1 1 10) + 1 = qn (w.1 1 10)) by omega, false_and, if_false]
          have hjc : j = 0 ∨ j = 1 ∨ j = 2 ∨ j = 3 ∨ j = 4 ∨ j = 5 ∨ j = 6 ∨ j = 7 ∨ j = 8 ∨ j = 9 := by omega
          rcases hjc with rfl | rfl | rfl | rfl | rfl | rfl | rfl | rfl | rfl | rfl <;> first | rfl | exact en
        · simp only [zi, zi1, false_and, if_false]
    · rw [a3 j]
      have : w2.1 14 = w.1 14 := (h2.1.2 14 (by simp)).trans (h1.1.2 14 (by simp))
      show (if _ then _ else w2.1 14 j) = _
      rw [this]
  · exact h.elim
theorem ha_X3_addCall : ∀ As w P, T_X3_addCall As w P → qq_wd As ≤ 8 := by
  intro As w P h
  unfold T_X3_addCall at h
  split at h
  · exact Nat.le_of_ble_eq_true rfl
  · exact h.elim
theorem hv_X3_addCall : ∀ As w P, T_X3_addCall As w P → ∃ (k : Nat) (r : List Value) (fs : List Nat), As = .ref k :: r ∧ ww_sh[k]? = some (.inr (3, fs)) := by
  intro As w P h
  unfold T_X3_addCall at h
  split at h
  · exact ⟨_, _, _, rfl, rfl⟩
  · exact h.elim
set_option maxRecDepth 100000 in
theorem M_X3_addCall (l : Launch) : qq_M l ww_T ww_N vwCl ww_sh ww_ro ww_zs yX3_addCall cX3_addCall 8 (some .int) (ww_rm 2) T_X3_addCall := by
  refine qq_mk (host := RX7) (is := ki_X3_addCall) (cs := cs_X3_addCall) (by decide) ww_k1 wl_X3 ww_so ww_so2 kc_X3_addCall kv_X3_addCall kg_X3_addCall ?_ ha_X3_addCall bd_X3_addCall
  intro k i q hi hq
  match k, hi, hq with
  | 0, hi, hq => cases hi; cases hq; exact fun p e s m args below meth c D tys tC ad Q pc X hdg => qq_cV (ci := 3) X ww_gd (M_X3_addNode l) kf_X3_addNode.1 (Or.inl (ww_a2 (i := 76) (w := Cond.methodLink RX3 62 yX3_addNode) rfl rfl)) kf_X3_addNode.2.1 kf_X3_addNode.2.2.1 kf_X3_addNode.2.2.2 ⟨by decide, by decide, by decide +kernel⟩ rfl rfl rfl ⟨by decide, by decide⟩ ⟨Nat.le_refl _, Nat.le_refl _⟩ hv_X3_addNode hdg
  | 1, hi, hq => cases hi; cases hq; exact fun p e s m args below meth c D tys tC ad Q pc X hdg => qq_cV (ci := 3) X ww_gd (M_X3_tell l) kf_X3_tell.1 (Or.inl (ww_a2 (i := 80) (w := Cond.methodLink RX3 65 yX3_tell) rfl rfl)) kf_X3_tell.2.1 kf_X3_tell.2.2.1 kf_X3_tell.2.2.2 ⟨by decide, by decide, by decide +kernel⟩ rfl rfl rfl ⟨by decide, by decide⟩ ⟨Nat.le_refl _, Nat.le_refl _⟩ hv_X3_tell hdg
  | n + 2, hi, hq => simp [cs_X3_addCall] at hq
abbrev cs_X3_digested : List (Nat × qq_t) := [(3, T_X3_of), (2, T_X3_isCall)]
/-- 31 h + v, over a row -/
def fold31 (f : Nat → Int32) : Nat → Int64 → Int64
  | 0, h => h
  | k + 1, h => 31 * fold31 f k h + (f k).toInt64
/-- nodes: their ten columns, then a CALL's arguments -/
def dgN (cell arg : Nat → Nat → Int32) (rm : Nat → Nat) : Nat → Int64 → Int64
  | 0, h => h
  | n + 1, h => fold31 (arg n) (rm n) (fold31 (cell n) 10 (dgN cell arg rm n h))
def dgE (f g : Nat → Int32) : Nat → Int64 → Int64
  | 0, h => h
  | k + 1, h => 31 * (31 * dgE f g k h + (f k).toInt64) + (g k).toInt64
def dgP (f g e : Nat → Int32) : Nat → Int64 → Int64
  | 0, h => h
  | k + 1, h => 31 * (31 * (31 * dgP f g e k h + (f k).toInt64) + (g k).toInt64) + (e k).toInt64
def cRm (w : qq_w) (n : Nat) : Nat := if cX w n 1 = 9 then qn (cX w n 8) else 0
def cDg (w : qq_w) (h : Int64) : Int64 := dgP (w.1 9) (w.1 10) (w.1 11) (qn (w.1 1 9)) (dgE (w.1 15) (w.1 16) (qn (w.1 1 11)) (dgN (cX w) (fun n k => w.1 14 (4 * n + k)) (cRm w) (qn (w.1 1 10)) h))
def T_X3_digested : qq_t := fun As w P => match As with
  | [.ref 1, .long h] => (vp_in (w.1 1 10) 65 ∧ vp_in (w.1 1 11) 121 ∧ vp_in (w.1 1 9) 9 ∧ ∀ c, c < qn (w.1 1 10) → cX w c 1 = 9 → vp_in (cX w c 8) 5) ∧ P (some (.long (cDg w h))) w
  | _ => False
theorem dg_162 {P : Option Value → qq_w → Prop} {K : Nat → qq_L → List Value → qq_w → Prop} (S : qq_Sat ww_sh ww_ro cs_X3_digested (qq_at 224 kd_X3_digested) (some .long) P K) {w : qq_w} {N : Nat} {h0 : Int64} (eN : w.1 1 9 = nI N) (hN : N ≤ 8) (hq : P (some (.long (dgP (w.1 9) (w.1 10) (w.1 11) N h0))) w) :
    ∀ m i, i + m = N → ∀ (x3 : Int64) (x5 : Int32), x5 = nI i → x3 = dgP (w.1 9) (w.1 10) (w.1 11) i h0 → K 162 [(0, .ref 1), (3, .long x3), (5, .int x5)] [] w := by
  intro m
  induction m with
  | zero =>
    intro i hi x3 x5 e5 e3
    have : i = N := by omega
    subst this
    refine qq_go_ok S (fun pc => Nat.beq pc 162) 80 ?_
    conv => whnf
    refine br_t (i_ge' e5 eN (by omega) (by omega)) ?_
    conv => whnf
    rw [e3]
    exact hq
  | succ m ih =>
    intro i hi x3 x5 e5 e3
    refine qq_go_ok S (fun pc => Nat.beq pc 162) 80 ?_
    conv => whnf
    refine br_f (i_lt' e5 eN (by omega) (by omega)) ?_
    conv => whnf
    refine ⟨i_in 8 e5 (by omega) (by decide), ?_⟩
    conv => whnf
    refine ⟨i_in 8 e5 (by omega) (by decide), ?_⟩
    conv => whnf
    refine ⟨i_in 8 e5 (by omega) (by decide), ?_⟩
    conv => whnf
    refine qq_wk S (ih (i + 1) (by omega) _ _ (i_s e5) ?_) ⟨rfl, rfl, rfl, trivial⟩
    show 31 * (31 * (31 * x3 + (w.1 9 x5.toNatClampNeg).toInt64) + (w.1 10 x5.toNatClampNeg).toInt64) + (w.1 11 x5.toNatClampNeg).toInt64 = _
    rw [i_c e5 (by omega), e3]
    rfl
theorem dg_114 {P : Option Value → qq_w → Prop} {K : Nat → qq_L → List Value → qq_w → Prop} (S : qq_Sat ww_sh ww_ro cs_X3_digested (qq_at 224 kd_X3_digested) (some .long) P K) {w : qq_w} {N : Nat} {h0 : Int64} (eN : w.1 1 11 = nI N) (hN : N ≤ 120) (hk : ∀ x3 : Int64, x3 = dgE (w.1 15) (w.1 16) N h0 → K 162 [(0, .ref 1), (3, .long x3), (5, .int 0)] [] w) :
    ∀ m i, i + m = N → ∀ (x3 : Int64) (x5 : Int32), x5 = nI i → x3 = dgE (w.1 15) (w.1 16) i h0 → K 114 [(0, .ref 1), (3, .long x3), (5, .int x5)] [] w := by
  intro m
  induction m with
  | zero =>
    intro i hi x3 x5 e5 e3
    have : i = N := by omega
    subst this
    refine qq_go_ok S (fun pc => Nat.beq pc 114 || Nat.beq pc 162) 80 ?_
    conv => whnf
    refine br_t (i_ge' e5 eN (by omega) (by omega)) ?_
    conv => whnf
    exact qq_wk S (hk x3 e3) ⟨rfl, rfl, rfl, trivial⟩
  | succ m ih =>
    intro i hi x3 x5 e5 e3
    refine qq_go_ok S (fun pc => Nat.beq pc 114 || Nat.beq pc 162) 80 ?_
    conv => whnf
    refine br_f (i_lt' e5 eN (by omega) (by omega)) ?_
    conv => whnf
    refine ⟨i_in 120 e5 (by omega) (by decide), ?_⟩
    conv => whnf
    refine ⟨i_in 120 e5 (by omega) (by decide), ?_⟩
    conv => whnf
    refine qq_wk S (ih (i + 1) (by omega) _ _ (i_s e5) ?_) ⟨rfl, rfl, rfl, trivial⟩
    show 31 * (31 * x3 + (w.1 15 x5.toNatClampNeg).toInt64) + (w.1 16 x5.toNatClampNeg).toInt64 = _
    rw [i_c e5 (by omega), e3]
    rfl
theorem dg_72 {P : Option Value → qq_w → Prop} {K : Nat → qq_L → List Value → qq_w → Prop} (S : qq_Sat ww_sh ww_ro cs_X3_digested (qq_at 224 kd_X3_digested) (some .long) P K) {w : qq_w} {n r : Nat} {h0 : Int64} {x5 x6 : Int32} (e5 : x5 = nI n) (hn : n < 64) (e6 : x6 = nI r) (hr : r ≤ 4) (hk : ∀ (x3 : Int64) (y5 : Int32), y5 = nI (n + 1) → x3 = fold31 (fun k => w.1 14 (4 * n + k)) r h0 → K 5 [(0, .ref 1), (3, .long x3), (5, .int y5)] [] w) :
    ∀ m i, i + m = r → ∀ (x3 : Int64) (x7 : Int32), x7 = nI i → x3 = fold31 (fun k => w.1 14 (4 * n + k)) i h0 → K 72 [(0, .ref 1), (3, .long x3), (5, .int x5), (6, .int x6), (7, .int x7)] [] w := by
  intro m
  induction m with
  | zero =>
    intro i hi x3 x7 e7 e3
    have : i = r := by omega
    subst this
    refine qq_go_ok S (fun pc => Nat.beq pc 72 || Nat.beq pc 5) 80 ?_
    conv => whnf
    refine br_t (i_ge' e7 e6 (by omega) (by omega)) ?_
    conv => whnf
    exact qq_wk S (hk x3 _ (i_s e5) e3) ⟨rfl, rfl, rfl, trivial⟩
  | succ m ih =>
    intro i hi x3 x7 e7 e3
    refine qq_go_ok S (fun pc => Nat.beq pc 72 || Nat.beq pc 5) 80 ?_
    conv => whnf
    refine br_f (i_lt' e7 e6 (by omega) (by omega)) ?_
    conv => whnf
    have e := nI_ml e5 e7 (nI_lit 4)
    refine ⟨i_in 256 e (by omega) (by decide), ?_⟩
    conv => whnf
    refine qq_wk S (ih (i + 1) (by omega) _ _ (i_s e7) ?_) ⟨rfl, rfl, rfl, rfl, rfl, trivial⟩
    show 31 * x3 + (w.1 14 (x5 * 4 + x7).toNatClampNeg).toInt64 = _
    rw [i_c e (by omega), e3]
    rfl
theorem dg_17 {P : Option Value → qq_w → Prop} {K : Nat → qq_L → List Value → qq_w → Prop} (S : qq_Sat ww_sh ww_ro cs_X3_digested (qq_at 224 kd_X3_digested) (some .long) P K) {w : qq_w} {n : Nat} {h0 : Int64} {x5 : Int32} (e5 : x5 = nI n) (hn : n < 64) (hc : cX w n 1 = 9 → vp_in (cX w n 8) 5) (hk : ∀ (x3 : Int64) (x6 : Int32), x6 = nI (cRm w n) → cRm w n ≤ 4 → x3 = fold31 (cX w n) 10 h0 → K 72 [(0, .ref 1), (3, .long x3), (5, .int x5), (6, .int x6), (7, .int 0)] [] w) :
    ∀ m i, i + m = 10 → ∀ (x3 : Int64) (x6 : Int32), x6 = nI i → x3 = fold31 (cX w n) i h0 → K 17 [(0, .ref 1), (3, .long x3), (5, .int x5), (6, .int x6)] [] w := by
  intro m
  induction m with
  | zero =>
    intro i hi x3 x6 e6 e3
    have : i = 10 := by omega
    subst this
    have i1 := nI_ml e5 (x := 1) (i := 1) rfl (nI_lit 10)
    have i8 := nI_ml e5 (x := 8) (i := 8) rfl (nI_lit 10)
    have c1 : w.1 13 (x5 * 10 + 1).toNatClampNeg = cX w n 1 := by rw [i_c i1 (by omega)]
    have c8 : w.1 13 (x5 * 10 + 8).toNatClampNeg = cX w n 8 := by rw [i_c i8 (by omega)]
    refine qq_go_ok S (fun pc => Nat.beq pc 17 || Nat.beq pc 72) 80 ?_
    conv => whnf
    refine br_t (i_ge 10 e6 (by omega) (by omega)) ?_
    conv => whnf
    refine ⟨i_in 640 i1 (by omega) (by decide), ?_⟩
    conv => whnf
    refine ⟨fun h => ?_, fun h => ?_⟩
    · have h : ¬ w.1 13 (x5 * 10 + 1).toNatClampNeg = 9 := h
      rw [c1] at h
      conv => whnf
      refine br_t rfl ?_
      conv => whnf
      have er : cRm w n = 0 := if_neg h
      exact qq_wk S (hk x3 0 (by rw [er]; rfl) (by omega) e3) ⟨rfl, rfl, rfl, rfl, rfl, trivial⟩
    · have h : w.1 13 (x5 * 10 + 1).toNatClampNeg = 9 := h
      rw [c1] at h
      conv => whnf
      refine br_f (by decide) ?_
      conv => whnf
      refine ⟨i_in 640 i8 (by omega) (by decide), ?_⟩
      conv => whnf
      have er : cRm w n = qn (cX w n 8) := if_pos h
      obtain ⟨e8, h8⟩ := qn_eq (hc h) (by decide)
      refine qq_wk S (hk x3 (cX w n 8) (by rw [er]; exact e8) (by omega) e3) ⟨rfl, rfl, rfl, ?_, rfl, trivial⟩
      show some (Value.int (w.1 13 (x5 * 10 + 8).toNatClampNeg)) = _
      rw [c8]
  | succ m ih =>
    intro i hi x3 x6 e6 e3
    refine qq_go_ok S (fun pc => Nat.beq pc 17 || Nat.beq pc 72) 80 ?_
    conv => whnf
    refine br_f (i_nge 10 e6 (by omega) (by omega)) ?_
    conv => whnf
    have e := nI_ml e5 e6 (nI_lit 10)
    refine ⟨i_in 640 e (by omega) (by decide), ?_⟩
    conv => whnf
    refine qq_wk S (ih (i + 1) (by omega) _ _ (i_s e6) ?_) ⟨rfl, rfl, rfl, rfl, trivial⟩
    show 31 * x3 + (w.1 13 (x5 * 10 + x6).toNatClampNeg).toInt64 = _
    rw [i_c e (by omega), e3]
    rfl
theorem dg_5 {P : Option Value → qq_w → Prop} {K : Nat → qq_L → List Value → qq_w → Prop} (S : qq_Sat ww_sh ww_ro cs_X3_digested (qq_at 224 kd_X3_digested) (some .long) P K) {w : qq_w} {N : Nat} {h0 : Int64} (eN : w.1 1 10 = nI N) (hN : N ≤ 64) (hc : ∀ c, c < N → cX w c 1 = 9 → vp_in (cX w c 8) 5) (hk : ∀ x3 : Int64, x3 = dgN (cX w) (fun n k => w.1 14 (4 * n + k)) (cRm w) N h0 → K 114 [(0, .ref 1), (3, .long x3), (5, .int 0)] [] w) :
    ∀ m i, i + m = N → ∀ (x3 : Int64) (x5 : Int32), x5 = nI i → x3 = dgN (cX w) (fun n k => w.1 14 (4 * n + k)) (cRm w) i h0 → K 5 [(0, .ref 1), (3, .long x3), (5, .int x5)] [] w := by
  intro m
  induction m with
  | zero =>
    intro i hi x3 x5 e5 e3
    have : i = N := by omega
    subst this
    refine qq_go_ok S (fun pc => Nat.beq pc 5 || Nat.beq pc 114) 80 ?_
    conv => whnf
    refine br_t (i_ge' e5 eN (by omega) (by omega)) ?_
    conv => whnf
    exact qq_wk S (hk x3 e3) ⟨rfl, rfl, rfl, trivial⟩
  | succ m ih =>
    intro i hi x3 x5 e5 e3
    refine qq_go_ok S (fun pc => Nat.beq pc 17) 80 ?_
    conv => whnf
    refine br_f (i_lt' e5 eN (by omega) (by omega)) ?_
    conv => whnf
    refine qq_wk S (dg_17 S (h0 := x3) e5 (by omega) (hc i (by omega)) (fun y3 y6 ey6 hle ey3 => ?_) 10 0 rfl x3 0 rfl rfl) ⟨rfl, rfl, rfl, rfl, trivial⟩
    refine dg_72 S (h0 := y3) e5 (by omega) ey6 hle (fun z3 z5 ez5 ez3 => ?_) (cRm w i) 0 (Nat.zero_add _) y3 0 rfl rfl
    refine ih (i + 1) (by omega) z3 z5 ez5 ?_
    rw [ez3, ey3, e3]
    rfl
set_option maxHeartbeats 4000000 in
set_option maxRecDepth 100000 in
theorem bd_X3_digested : ∀ As w P K, qq_Sat ww_sh ww_ro cs_X3_digested (qq_at 224 kd_X3_digested) (some .long) P K → T_X3_digested As w P → K 0 (lv_args 0 As) [] w := by
  intro As w P K S h
  unfold T_X3_digested at h
  split at h
  · rename_i h0
    obtain ⟨⟨hp, hp2, hp3, hp4⟩, hq⟩ := h
    obtain ⟨eN, hN⟩ := qn_eq hp (by decide)
    obtain ⟨eE, hE⟩ := qn_eq hp2 (by decide)
    obtain ⟨eP, hP⟩ := qn_eq hp3 (by decide)
    refine qq_go_ok S (fun pc => Nat.beq pc 5) 60 ?_
    conv => whnf
    refine qq_wk S (dg_5 S (h0 := h0) eN (by omega) hp4 (fun x3 e3 => ?_) _ 0 (Nat.zero_add _) h0 0 rfl rfl) ⟨rfl, rfl, rfl, trivial⟩
    refine dg_114 S (h0 := x3) eE (by omega) (fun y3 ey => ?_) _ 0 (Nat.zero_add _) x3 0 rfl rfl
    refine dg_162 S (h0 := y3) eP (by omega) ?_ _ 0 (Nat.zero_add _) y3 0 rfl rfl
    rw [ey, e3]
    exact hq
  · exact h.elim
theorem ha_X3_digested : ∀ As w P, T_X3_digested As w P → qq_wd As ≤ 8 := by
  intro As w P h
  unfold T_X3_digested at h
  split at h
  · exact Nat.le_of_ble_eq_true rfl
  · exact h.elim
theorem hv_X3_digested : ∀ As w P, T_X3_digested As w P → ∃ (k : Nat) (r : List Value) (fs : List Nat), As = .ref k :: r ∧ ww_sh[k]? = some (.inr (3, fs)) := by
  intro As w P h
  unfold T_X3_digested at h
  split at h
  · exact ⟨_, _, _, rfl, rfl⟩
  · exact h.elim
set_option maxRecDepth 100000 in
theorem M_X3_digested (l : Launch) : qq_M l ww_T ww_N vwCl ww_sh ww_ro ww_zs yX3_digested cX3_digested 8 (some .long) (ww_rm 2) T_X3_digested := by
  refine qq_mk (host := RX7) (is := ki_X3_digested) (cs := cs_X3_digested) (by decide) ww_k1 wl_X3 ww_so ww_so2 kc_X3_digested kv_X3_digested kg_X3_digested ?_ ha_X3_digested bd_X3_digested
  intro k i q hi hq
  match k, hi, hq with
  | 0, hi, hq => cases hi; cases hq; exact fun p e s m args below meth c D tys tC ad Q pc X hdg => qq_cV (ci := 3) X ww_gd (M_X3_of l) kf_X3_of.1 (Or.inl (ww_a2 (i := 144) (w := Cond.methodLink RX3 58 yX3_of) rfl rfl)) kf_X3_of.2.1 kf_X3_of.2.2.1 kf_X3_of.2.2.2 ⟨by decide, by decide, by decide +kernel⟩ rfl rfl rfl ⟨by decide, by decide⟩ ⟨Nat.le_refl _, Nat.le_refl _⟩ hv_X3_of hdg
  | 1, hi, hq => cases hi; cases hq; exact fun p e s m args below meth c D tys tC ad Q pc X hdg => qq_cV (ci := 3) X ww_gd (M_X3_isCall l) kf_X3_isCall.1 (Or.inl (ww_a2 (i := 204) (w := Cond.methodLink RX3 54 yX3_isCall) rfl rfl)) kf_X3_isCall.2.1 kf_X3_isCall.2.2.1 kf_X3_isCall.2.2.2 ⟨by decide, by decide, by decide +kernel⟩ rfl rfl rfl ⟨by decide, by decide⟩ ⟨Nat.le_refl _, Nat.le_refl _⟩ hv_X3_isCall hdg
  | n + 2, hi, hq => simp [cs_X3_digested] at hq
