def mbit (f : Int32) : Int32 := if f = -5 then 0 else 1 <<< (f &&& 31)
abbrev cs_X8_in : List (Nat × qq_t) := []
def T_X8_in : qq_t := fun As w P => match As with
  | [.int v, .int l, .int h] => ((l ≤ v ∧ v ≤ h) → P (some (.int 1)) w) ∧ (¬ (l ≤ v ∧ v ≤ h) → P (some (.int 0)) w)
  | _ => False
set_option maxHeartbeats 4000000 in
set_option maxRecDepth 100000 in
theorem bd_X8_in : ∀ As w P K, qq_Sat ww_sh ww_ro cs_X8_in (qq_at 16 kd_X8_in) (some .boolean) P K → T_X8_in As w P → K 0 (lv_args 0 As) [] w := by
  intro As w P K S h
  unfold T_X8_in at h
  split at h
  · rename_i v l u
    obtain ⟨hq1, hq0⟩ := h
    refine qq_go_ok S (fun _ => false) 20 ?_
    conv => whnf
    refine ⟨fun h1 => hq0 ?_, fun h1 => ?_⟩
    · rintro ⟨z, -⟩
      rw [i_lt] at h1
      rw [i_le] at z
      omega
    conv => whnf
    refine ⟨fun h2 => hq0 ?_, fun h2 => hq1 ?_⟩
    · rintro ⟨-, z⟩
      rw [i_lt] at h2
      rw [i_le] at z
      omega
    · rw [i_lt] at h1 h2
      rw [i_le, i_le]
      omega
  · exact h.elim
theorem ha_X8_in : ∀ As w P, T_X8_in As w P → qq_wd As ≤ 3 := by
  intro As w P h
  unfold T_X8_in at h
  split at h
  · exact Nat.le_of_ble_eq_true rfl
  · exact h.elim
set_option maxRecDepth 100000 in
theorem M_X8_in (l : Launch) : qq_M l ww_T ww_N vwCl ww_sh ww_ro ww_zs yX8_in cX8_in 3 (some .boolean) (ww_rm 0) T_X8_in := by
  refine qq_mk (host := RX7) (is := ki_X8_in) (cs := cs_X8_in) (by decide) ww_k1 wl_X8 ww_so ww_so2 kc_X8_in kv_X8_in kg_X8_in ?_ ha_X8_in bd_X8_in
  intro k i q hi hq
  simp [cs_X8_in] at hq
abbrev cs_X8_bit : List (Nat × qq_t) := []
def T_X8_bit : qq_t := fun As w P => match As with
  | [.int f] => True ∧ P (some (.int (mbit f))) w
  | _ => False
set_option maxHeartbeats 4000000 in
set_option maxRecDepth 100000 in
theorem bd_X8_bit : ∀ As w P K, qq_Sat ww_sh ww_ro cs_X8_bit (qq_at 14 kd_X8_bit) (some .int) P K → T_X8_bit As w P → K 0 (lv_args 0 As) [] w := by
  intro As w P K S h
  unfold T_X8_bit at h
  split at h
  · rename_i f
    obtain ⟨-, hq⟩ := h
    unfold mbit at hq
    refine qq_go_ok S (fun _ => false) 20 ?_
    conv => whnf
    refine ⟨fun h1 => ?_, fun h1 => ?_⟩
    · conv => whnf
      rw [if_neg h1] at hq
      exact hq
    · conv => whnf
      rw [if_pos h1] at hq
      exact hq
  · exact h.elim
theorem ha_X8_bit : ∀ As w P, T_X8_bit As w P → qq_wd As ≤ 1 := by
  intro As w P h
  unfold T_X8_bit at h
  split at h
  · exact Nat.le_of_ble_eq_true rfl
  · exact h.elim
set_option maxRecDepth 100000 in
theorem M_X8_bit (l : Launch) : qq_M l ww_T ww_N vwCl ww_sh ww_ro ww_zs yX8_bit cX8_bit 1 (some .int) (ww_rm 0) T_X8_bit := by
  refine qq_mk (host := RX7) (is := ki_X8_bit) (cs := cs_X8_bit) (by decide) ww_k1 wl_X8 ww_so ww_so2 kc_X8_bit kv_X8_bit kg_X8_bit ?_ ha_X8_bit bd_X8_bit
  intro k i q hi hq
  simp [cs_X8_bit] at hq
abbrev cs_X8_hasY : List (Nat × qq_t) := []
def T_X8_hasY : qq_t := fun As w P => match As with
  | [.int k] => ((k = 4 ∨ k = 5) → P (some (.int 1)) w) ∧ (¬ (k = 4 ∨ k = 5) → P (some (.int 0)) w)
  | _ => False
set_option maxHeartbeats 4000000 in
set_option maxRecDepth 100000 in
theorem bd_X8_hasY : ∀ As w P K, qq_Sat ww_sh ww_ro cs_X8_hasY (qq_at 16 kd_X8_hasY) (some .boolean) P K → T_X8_hasY As w P → K 0 (lv_args 0 As) [] w := by
  intro As w P K S h
  unfold T_X8_hasY at h
  split at h
  · rename_i k
    obtain ⟨hq1, hq0⟩ := h
    refine qq_go_ok S (fun _ => false) 20 ?_
    conv => whnf
    refine ⟨fun h1 => hq1 (Or.inl h1), fun h1 => ?_⟩
    conv => whnf
    exact ⟨fun h2 => hq0 (fun z => z.elim h1 h2), fun h2 => hq1 (Or.inr h2)⟩
  · exact h.elim
theorem ha_X8_hasY : ∀ As w P, T_X8_hasY As w P → qq_wd As ≤ 1 := by
  intro As w P h
  unfold T_X8_hasY at h
  split at h
  · exact Nat.le_of_ble_eq_true rfl
  · exact h.elim
set_option maxRecDepth 100000 in
theorem M_X8_hasY (l : Launch) : qq_M l ww_T ww_N vwCl ww_sh ww_ro ww_zs yX8_hasY cX8_hasY 1 (some .boolean) (ww_rm 0) T_X8_hasY := by
  refine qq_mk (host := RX7) (is := ki_X8_hasY) (cs := cs_X8_hasY) (by decide) ww_k1 wl_X8 ww_so ww_so2 kc_X8_hasY kv_X8_hasY kg_X8_hasY ?_ ha_X8_hasY bd_X8_hasY
  intro k i q hi hq
  simp [cs_X8_hasY] at hq
