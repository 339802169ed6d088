def T_X7_isWithin : qq_t := fun As w P => match As with
  | [.int a, .int b] => True ∧ P (some (.int (qq_bz (0 ≤ a ∧ a < b)))) w
  | _ => False
abbrev cs_X7_isWithin : List (Nat × qq_t) := []
set_option maxHeartbeats 4000000 in
set_option maxRecDepth 100000 in
theorem bd_X7_isWithin : ∀ As w P K, qq_Sat ww_sh ww_ro cs_X7_isWithin (qq_at 15 kd_X7_isWithin) P K → T_X7_isWithin As w P → K 0 (lv_args 0 As) [] w := by
  intro As w P K S h
  unfold T_X7_isWithin at h
  split at h
  · rename_i a b
    obtain ⟨hp, hq⟩ := h
    refine qq_go_ok S (fun _ => false) 20 ?_
    conv => whnf
    refine ⟨fun h1 => ?_, fun h1 => ?_⟩ <;> conv => whnf
    · rw [qq_bzf (by rw [i_le, i_lt] at *; simp_all; omega)] at hq
      exact hq
    refine ⟨fun h2 => ?_, fun h2 => ?_⟩ <;> conv => whnf
    · rw [qq_bzf (by rw [i_le] at h2; rw [i_lt, i_le]; omega)] at hq
      exact hq
    · rw [qq_bzt (by rw [i_lt] at h1; rw [i_le] at h2; rw [i_lt, i_le]; simp at *; omega)] at hq
      exact hq
  · exact h.elim
theorem ha_X7_isWithin : ∀ As w P, T_X7_isWithin As w P → qq_wd As ≤ 2 := by
  intro As w P h
  unfold T_X7_isWithin at h
  split at h
  · exact Nat.le_of_ble_eq_true rfl
  · exact h.elim
theorem hr_X7_isWithin : ∀ As w P, T_X7_isWithin As w P → T_X7_isWithin As w (fun v w' => P v w' ∧ qq_rt (some .boolean) v) := by
  intro As w P h
  unfold T_X7_isWithin at h ⊢
  split at h
  · first | exact ⟨h.1, h.2, trivial⟩ | exact ⟨h.1, h.2, qq_bz01 _⟩ | exact ⟨h.1, fun w' hR => ⟨h.2 w' hR, trivial⟩⟩ | exact ⟨h.1, fun x w' hR => ⟨h.2 x w' hR, trivial⟩⟩ | exact ⟨h.1, fun x w' hR => ⟨h.2 x w' hR, qq_bz01 _⟩⟩
  · exact h.elim
set_option maxRecDepth 100000 in
theorem M_X7_isWithin (l : Launch) : qq_M l ww_T ww_N vwCl ww_sh ww_ro ww_zs yX7_isWithin cX7_isWithin 2 (some .boolean) (ww_rm 0) T_X7_isWithin := by
  refine qq_mk (host := RX7) (is := ki_X7_isWithin) (cs := cs_X7_isWithin) (by decide) ww_k1 wl_X7 ww_so ww_so2 kc_X7_isWithin kv_X7_isWithin kg_X7_isWithin ?_ ha_X7_isWithin hr_X7_isWithin bd_X7_isWithin
  intro k i q hi hq
  simp [cs_X7_isWithin] at hq
def T_X7_has : qq_t := fun As w P => match As with
  | [.int b, .int f] => True ∧ P (some (.int (qq_bz (¬ (b >>> (f &&& 31)) &&& 1 = 0)))) w
  | _ => False
abbrev cs_X7_has : List (Nat × qq_t) := []
set_option maxHeartbeats 4000000 in
set_option maxRecDepth 100000 in
theorem bd_X7_has : ∀ As w P K, qq_Sat ww_sh ww_ro cs_X7_has (qq_at 14 kd_X7_has) P K → T_X7_has As w P → K 0 (lv_args 0 As) [] w := by
  intro As w P K S h
  unfold T_X7_has at h
  split at h
  · rename_i a b
    obtain ⟨hp, hq⟩ := h
    refine qq_go_ok S (fun _ => false) 20 ?_
    conv => whnf
    refine ⟨fun h1 => ?_, fun h1 => ?_⟩ <;> conv => whnf
    · rw [qq_bzf (by simp [h1])] at hq
      exact hq
    · rw [qq_bzt h1] at hq
      exact hq
  · exact h.elim
theorem ha_X7_has : ∀ As w P, T_X7_has As w P → qq_wd As ≤ 2 := by
  intro As w P h
  unfold T_X7_has at h
  split at h
  · exact Nat.le_of_ble_eq_true rfl
  · exact h.elim
theorem hr_X7_has : ∀ As w P, T_X7_has As w P → T_X7_has As w (fun v w' => P v w' ∧ qq_rt (some .boolean) v) := by
  intro As w P h
  unfold T_X7_has at h ⊢
  split at h
  · first | exact ⟨h.1, h.2, trivial⟩ | exact ⟨h.1, h.2, qq_bz01 _⟩ | exact ⟨h.1, fun w' hR => ⟨h.2 w' hR, trivial⟩⟩ | exact ⟨h.1, fun x w' hR => ⟨h.2 x w' hR, trivial⟩⟩ | exact ⟨h.1, fun x w' hR => ⟨h.2 x w' hR, qq_bz01 _⟩⟩
  · exact h.elim
set_option maxRecDepth 100000 in
theorem M_X7_has (l : Launch) : qq_M l ww_T ww_N vwCl ww_sh ww_ro ww_zs yX7_has cX7_has 2 (some .boolean) (ww_rm 0) T_X7_has := by
  refine qq_mk (host := RX7) (is := ki_X7_has) (cs := cs_X7_has) (by decide) ww_k1 wl_X7 ww_so ww_so2 kc_X7_has kv_X7_has kg_X7_has ?_ ha_X7_has hr_X7_has bd_X7_has
  intro k i q hi hq
  simp [cs_X7_has] at hq
def T_X3_of : qq_t := fun As w P => match As with
  | [.ref 1, .int a, .int b] => (vp_in a 64 ∧ vp_in b 10) ∧ P (some (.int (w.1 13 (10 * qn a + qn b)))) w
  | _ => False
abbrev cs_X3_of : List (Nat × qq_t) := []
set_option maxHeartbeats 4000000 in
set_option maxRecDepth 100000 in
theorem bd_X3_of : ∀ As w P K, qq_Sat ww_sh ww_ro cs_X3_of (qq_at 12 kd_X3_of) P K → T_X3_of As w P → K 0 (lv_args 0 As) [] w := by
  intro As w P K S h
  unfold T_X3_of at h
  split at h
  · rename_i a b
    obtain ⟨hp, hq⟩ := h
    refine qq_go_ok S (fun _ => false) 20 ?_
    conv => whnf
    obtain ⟨h1, h2⟩ := hp
    obtain ⟨ea, ha⟩ := qn_eq h1 (by decide)
    obtain ⟨eb, hb⟩ := qn_eq h2 (by decide)
    have e : a * 10 + b = nI (10 * qn a + qn b) := by
      rw [ea, eb, qn_nI (by omega), qn_nI (by omega), nI_lit, pk_mul, nI_add, Nat.mul_comm]
    trace_state
    sorry
  · exact h.elim
theorem ha_X3_of : ∀ As w P, T_X3_of As w P → qq_wd As ≤ 3 := by
  intro As w P h
  unfold T_X3_of at h
  split at h
  · exact Nat.le_of_ble_eq_true rfl
  · exact h.elim
theorem hr_X3_of : ∀ As w P, T_X3_of As w P → T_X3_of As w (fun v w' => P v w' ∧ qq_rt (some .int) v) := by
  intro As w P h
  unfold T_X3_of at h ⊢
  split at h
  · first | exact ⟨h.1, h.2, trivial⟩ | exact ⟨h.1, h.2, qq_bz01 _⟩ | exact ⟨h.1, fun w' hR => ⟨h.2 w' hR, trivial⟩⟩ | exact ⟨h.1, fun x w' hR => ⟨h.2 x w' hR, trivial⟩⟩ | exact ⟨h.1, fun x w' hR => ⟨h.2 x w' hR, qq_bz01 _⟩⟩
  · exact h.elim
theorem hv_X3_of : ∀ As w P, T_X3_of As w P → ∃ (k : Nat) (r : List Value) (fs : List Nat), As = .ref k :: r ∧ ww_sh[k]? = some (.inr (3, fs)) := by
  intro As w P h
  unfold T_X3_of at h
  split at h
  · exact ⟨_, _, _, rfl, rfl⟩
  · exact h.elim
set_option maxRecDepth 100000 in
theorem M_X3_of (l : Launch) : qq_M l ww_T ww_N vwCl ww_sh ww_ro ww_zs yX3_of cX3_of 3 (some .int) (ww_rm 0) T_X3_of := by
  refine qq_mk (host := RX7) (is := ki_X3_of) (cs := cs_X3_of) (by decide) ww_k1 wl_X3 ww_so ww_so2 kc_X3_of kv_X3_of kg_X3_of ?_ ha_X3_of hr_X3_of bd_X3_of
  intro k i q hi hq
  simp [cs_X3_of] at hq
def T_X3_hasNode : qq_t := fun As w P => match As with
  | [.ref 1, .int a] => True ∧ P (some (.int (qq_bz (0 ≤ a ∧ a < w.1 1 10)))) w
  | _ => False
abbrev cs_X3_hasNode : List (Nat × qq_t) := [(2, T_X7_isWithin)]
set_option maxHeartbeats 4000000 in
set_option maxRecDepth 100000 in
theorem bd_X3_hasNode : ∀ As w P K, qq_Sat ww_sh ww_ro cs_X3_hasNode (qq_at 9 kd_X3_hasNode) P K → T_X3_hasNode As w P → K 0 (lv_args 0 As) [] w := by
  intro As w P K S h
  unfold T_X3_hasNode at h
  split at h
  · rename_i a
    obtain ⟨hp, hq⟩ := h
    refine qq_go_ok S (fun _ => false) 20 ?_
    conv => whnf
    refine ⟨trivial, ?_⟩
    conv => whnf
    exact hq
  · exact h.elim
theorem ha_X3_hasNode : ∀ As w P, T_X3_hasNode As w P → qq_wd As ≤ 2 := by
  intro As w P h
  unfold T_X3_hasNode at h
  split at h
  · exact Nat.le_of_ble_eq_true rfl
  · exact h.elim
theorem hr_X3_hasNode : ∀ As w P, T_X3_hasNode As w P → T_X3_hasNode As w (fun v w' => P v w' ∧ qq_rt (some .boolean) v) := by
  intro As w P h
  unfold T_X3_hasNode at h ⊢
  split at h
  · first | exact ⟨h.1, h.2, trivial⟩ | exact ⟨h.1, h.2, qq_bz01 _⟩ | exact ⟨h.1, fun w' hR => ⟨h.2 w' hR, trivial⟩⟩ | exact ⟨h.1, fun x w' hR => ⟨h.2 x w' hR, trivial⟩⟩ | exact ⟨h.1, fun x w' hR => ⟨h.2 x w' hR, qq_bz01 _⟩⟩
  · exact h.elim
theorem hv_X3_hasNode : ∀ As w P, T_X3_hasNode As w P → ∃ (k : Nat) (r : List Value) (fs : List Nat), As = .ref k :: r ∧ ww_sh[k]? = some (.inr (3, fs)) := by
  intro As w P h
  unfold T_X3_hasNode at h
  split at h
  · exact ⟨_, _, _, rfl, rfl⟩
  · exact h.elim
set_option maxRecDepth 100000 in
theorem M_X3_hasNode (l : Launch) : qq_M l ww_T ww_N vwCl ww_sh ww_ro ww_zs yX3_hasNode cX3_hasNode 2 (some .boolean) (ww_rm 1) T_X3_hasNode := by
  refine qq_mk (host := RX7) (is := ki_X3_hasNode) (cs := cs_X3_hasNode) (by decide) ww_k1 wl_X3 ww_so ww_so2 kc_X3_hasNode kv_X3_hasNode kg_X3_hasNode ?_ ha_X3_hasNode hr_X3_hasNode bd_X3_hasNode
  intro k i q hi hq
  match k, hi, hq with
  | 0, hi, hq => cases hi; cases hq; exact fun p e s m args below meth c D tys tC ad Q pc X hdg => qq_cS X ww_gd (M_X7_isWithin l) kf_X7_isWithin.1 (Or.inr ⟨RX7, ww_n2 (i := 92) (w := Cond.methodLinkNest RX3 40 yX7_isWithin RX7) rfl rfl⟩) kf_X7_isWithin.2.1 kf_X7_isWithin.2.2 ⟨by decide, by decide, by decide +kernel⟩ rfl rfl ⟨by decide, by decide⟩ ⟨Nat.le_refl _, Nat.le_refl _⟩ hdg
  | n + 1, hi, hq => simp [cs_X3_hasNode] at hq
