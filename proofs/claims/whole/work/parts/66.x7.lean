/-! System.arraycopy, by the kit's own rows -/
def T_arraycopy : qq_t := fun As w P => match As with
  | [.ref 14, .int a, .ref 14, .int b, .int n] => (∃ i j k, a = nI i ∧ b = nI j ∧ n = nI k ∧ i + k ≤ 256 ∧ j + k ≤ 256) ∧ P none (va_up w.1 14 (va_cpy (w.1 14) (w.1 14) (qn a) (qn b) (qn n)), w.2)
  | _ => False
theorem nI_nn {i : Nat} (h : i < 2 ^ 31) : ¬ nI i < 0 := fun y => absurd y (Int32.not_lt.mpr (i_ge' (x := nI i) (y := 0) (n := 0) rfl rfl (Nat.zero_le _) h))
theorem cf_arraycopy {l : Launch} {cc : ByteArray} {nL d : Nat} (hd : 1 ≤ d) : qq_cf l ww_T ww_N vwCl ww_sh ww_ro ww_zs RX7 cc nL (ww_rm d) 0 0 (.invokestatic 133) (5, T_arraycopy) := by
  intro p e s m args below meth c D tys tC ad Q pc X hdg lv As rest w P' hn hwd hT kk ls H locs hP hD hS hl
  have hT : T_arraycopy As w P' := hT
  unfold T_arraycopy at hT
  split at hT
  · rename_i a b n _
    obtain ⟨⟨i, j, k, ea, eb, en, h1, h2⟩, hq⟩ := hT
    have hts := X.1.2.2.2.2
    have hw := qq_wd_cat ad rest
    obtain ⟨t0, ht0⟩ := X.2.2.1 .int (Or.inl rfl)
    have hsh : ww_sh[14]? = some (.inl (.int, 256)) := rfl
    have hat : (qq_c ww_sh tC ad w)[14]? = some (ad 14, .inl (tC .int, 256, .inl (w.1 14))) := qq_c_at hsh
    have ca : a.toNatClampNeg = i := i_c ea (by omega)
    have cb : b.toNatClampNeg = j := i_c eb (by omega)
    have cn : n.toNatClampNeg = k := i_c en (by omega)
    refine va_copyi (rest := rest.map (qq_g ad)) X.1.1 X.1.2.1 (by rw [X.1.2.2.1, hl.1]) X.1.2.2.2.1 (hts _ (ww_a2 (i := 153) (w := Cond.methodLink RX7 133 arraycopyName) rfl rfl)) (hts _ (ww_a2 (i := 155) (w := Cond.native arraycopyName) rfl rfl)) (hts _ (ww_a2 (i := 154) (w := Cond.static arraycopyName) rfl rfl)) (hts _ (ww_a1 (i := 12) (w := Cond.initialized "java/lang/System") rfl rfl)) X.2.1 hP hD hS 14 14 t0 t0 hat hat ht0 ht0 rfl (by rw [ea]; exact nI_nn (by omega)) (by rw [eb]; exact nI_nn (by omega)) (by rw [en]; exact nI_nn (by omega)) (by rw [ca, cn]; exact h1) (by rw [cb, cn]; exact h2) (fun _ _ => rfl) hd (show ((rest.map (qq_g ad)).map fun v => v.category).sum + (nativeFrameWords "java/lang/System" "arraycopy" 5 + 11) ≤ 40 * d by rw [hw]; have : nativeFrameWords "java/lang/System" "arraycopy" 5 = 7 := rfl; omega) hdg ?_
    have hset : (qq_c ww_sh tC ad w).set 14 (ad 14, .inl (tC .int, 256, .inl (va_cpy (w.1 14) (w.1 14) a.toNatClampNeg b.toNatClampNeg n.toNatClampNeg))) = qq_c ww_sh tC ad (va_up w.1 14 (va_cpy (w.1 14) (w.1 14) (qn a) (qn b) (qn n)), w.2) := by
      refine qq_c_set hsh ?_ (fun i hi => by simp [va_up, hi]) (fun i _ => rfl)
      simp [qq_e, va_up]
      rfl
    intro H1 locs1 hP1 hD1 hS1
    rw [hset] at hP1 hD1
    exact kk none _ hq ls H1 locs1 hP1 hD1 hS1 hl
  · exact hT.elim
abbrev cs_X7_copy : List (Nat × qq_t) := [(2, T_X3_hasNode), (3, T_X3_of), (2, T_X3_isCall), (2, T_X0_answer), (4, T_X3_hasPlaces), (1, T_X7_endSolving), (5, T_arraycopy)]
def T_X7_copy : qq_t := fun As w P => match As with
  | [.ref 0, .int a0, .int a1, .int a2, .int a3, .int a4] => qq_go ww_sh ww_ro cs_X7_copy (qq_at 152 kd_X7_copy) (some .int) (fun _ => false) P qq_no 82 0 (lv_args 0 [.ref 0, .int a0, .int a1, .int a2, .int a3, .int a4]) [] w
  | _ => False
theorem bd_X7_copy : ∀ As w P K, qq_Sat ww_sh ww_ro cs_X7_copy (qq_at 152 kd_X7_copy) (some .int) P K → T_X7_copy As w P → K 0 (lv_args 0 As) [] w := by
  intro As w P K S h
  unfold T_X7_copy at h
  split at h
  · exact qq_go_all S h
  · exact h.elim
theorem ha_X7_copy : ∀ As w P, T_X7_copy As w P → qq_wd As ≤ 6 := by
  intro As w P h
  unfold T_X7_copy at h
  split at h
  · exact Nat.le_of_ble_eq_true rfl
  · exact h.elim
theorem hv_X7_copy : ∀ As w P, T_X7_copy As w P → ∃ (k : Nat) (r : List Value) (fs : List Nat), As = .ref k :: r ∧ ww_sh[k]? = some (.inr (7, fs)) := by
  intro As w P h
  unfold T_X7_copy at h
  split at h
  · exact ⟨_, _, _, rfl, rfl⟩
  · exact h.elim
set_option maxRecDepth 100000 in
theorem M_X7_copy (l : Launch) : qq_M l ww_T ww_N vwCl ww_sh ww_ro ww_zs yX7_copy cX7_copy 6 (some .int) (ww_rm 2) T_X7_copy := by
  refine qq_mk (host := RX7) (is := ki_X7_copy) (cs := cs_X7_copy) (by decide) ww_k1 wl_X7 ww_so ww_so2 kc_X7_copy kv_X7_copy kg_X7_copy ?_ ha_X7_copy bd_X7_copy
  intro k i q hi hq
  match k, hi, hq with
  | 0, hi, hq => cases hi; cases hq; exact fun p e s m args below meth c D tys tC ad Q pc X hdg => qq_cV (ci := 3) X ww_gd (M_X3_hasNode l) kf_X3_hasNode.1 (Or.inl (ww_a2 (i := 132) (w := Cond.methodLink RX7 117 yX3_hasNode) rfl rfl)) kf_X3_hasNode.2.1 kf_X3_hasNode.2.2.1 kf_X3_hasNode.2.2.2 ⟨by decide, by decide, by decide +kernel⟩ rfl rfl rfl ⟨by decide, by decide⟩ ⟨Nat.le_refl _, Nat.le_refl _⟩ hv_X3_hasNode hdg
  | 1, hi, hq => cases hi; cases hq; exact fun p e s m args below meth c D tys tC ad Q pc X hdg => qq_cV (ci := 3) X ww_gd (M_X3_of l) kf_X3_of.1 (Or.inl (ww_a2 (i := 136) (w := Cond.methodLink RX7 120 yX3_of) rfl rfl)) kf_X3_of.2.1 kf_X3_of.2.2.1 kf_X3_of.2.2.2 ⟨by decide, by decide, by decide +kernel⟩ rfl rfl rfl ⟨by decide, by decide⟩ ⟨Nat.le_refl _, Nat.le_refl _⟩ hv_X3_of hdg
  | 2, hi, hq => cases hi; cases hq; exact fun p e s m args below meth c D tys tC ad Q pc X hdg => qq_cV (ci := 3) X ww_gd (M_X3_isCall l) kf_X3_isCall.1 (Or.inl (ww_a2 (i := 140) (w := Cond.methodLink RX7 123 yX3_isCall) rfl rfl)) kf_X3_isCall.2.1 kf_X3_isCall.2.2.1 kf_X3_isCall.2.2.2 ⟨by decide, by decide, by decide +kernel⟩ rfl rfl rfl ⟨by decide, by decide⟩ ⟨Nat.le_refl _, Nat.le_refl _⟩ hv_X3_isCall hdg
  | 3, hi, hq => cases hi; cases hq; exact fun p e s m args below meth c D tys tC ad Q pc X hdg => qq_cV (ci := 0) X ww_gd (M_X0_answer l) kf_X0_answer.1 (Or.inl (ww_a2 (i := 120) (w := Cond.methodLink RX7 110 yX0_answer) rfl rfl)) kf_X0_answer.2.1 kf_X0_answer.2.2.1 kf_X0_answer.2.2.2 ⟨by decide, by decide, by decide +kernel⟩ rfl rfl rfl ⟨by decide, by decide⟩ ⟨Nat.le_refl _, Nat.le_refl _⟩ hv_X0_answer hdg
  | 4, hi, hq => cases hi; cases hq; exact fun p e s m args below meth c D tys tC ad Q pc X hdg => qq_cV (ci := 3) X ww_gd (M_X3_hasPlaces l) kf_X3_hasPlaces.1 (Or.inl (ww_a2 (i := 149) (w := Cond.methodLink RX7 129 yX3_hasPlaces) rfl rfl)) kf_X3_hasPlaces.2.1 kf_X3_hasPlaces.2.2.1 kf_X3_hasPlaces.2.2.2 ⟨by decide, by decide, by decide +kernel⟩ rfl rfl rfl ⟨by decide, by decide⟩ ⟨Nat.le_refl _, Nat.le_refl _⟩ hv_X3_hasPlaces hdg
  | 5, hi, hq => cases hi; cases hq; exact fun p e s m args below meth c D tys tC ad Q pc X hdg => qq_cV (ci := 7) X ww_gd (M_X7_endSolving l) kf_X7_endSolving.1 (Or.inl (ww_a2 (i := 60) (w := Cond.methodLink RX7 77 yX7_endSolving) rfl rfl)) kf_X7_endSolving.2.1 kf_X7_endSolving.2.2.1 kf_X7_endSolving.2.2.2 ⟨by decide, by decide, by decide +kernel⟩ rfl rfl rfl ⟨by decide, by decide⟩ ⟨Nat.le_refl _, Nat.le_refl _⟩ hv_X7_endSolving hdg
  | 6, hi, hq => cases hi; cases hq; exact cf_arraycopy (by decide)
  | n + 7, hi, hq => simp [cs_X7_copy] at hq
