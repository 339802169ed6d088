/-! Math.min, by the kit's own rows -/
def T_J9_min_7cf53 : qq_t := fun As w P => match As with
  | [.int x, .int y] => P (some (.int (if y < x then y else x))) w
  | _ => False
def T_J9_min_f86c9 : qq_t := fun As w P => match As with
  | [.long x, .long y] => P (some (.long (if y < x then y else x))) w
  | _ => False
theorem cf_mmin {l : Launch} {own : String} {cc : ByteArray} {nL i d : Nat} (hd : 1 ≤ d) (hlk : Cond.methodLink own i Lib.Math.min.name ∈ ww_T) : qq_cf l ww_T ww_N vwCl ww_sh ww_ro ww_zs own cc nL (ww_rm d) 0 0 (.invokestatic i) (2, T_J9_min_7cf53) := by
  intro p e s m args below meth c D tys tC ad Q pc X hdg lv As rest w P' hn hwd hT kk ls H locs hP hD hS hl
  have hT : T_J9_min_7cf53 As w P' := hT
  unfold T_J9_min_7cf53 at hT
  split at hT
  · rename_i x y
    have hts := X.1.2.2.2.2
    have hw := qq_wd_cat ad rest
    refine va_mmin X.1.1 X.1.2.1 (by rw [X.1.2.2.1, hl.1]) X.1.2.2.2.1 (hts _ hlk) (hts _ (ww_a2 (i := 54) (w := Cond.static Lib.Math.min.name) rfl rfl)) (hts _ (ww_a1 (i := 11) (w := Cond.initialized "java/lang/Math") rfl rfl)) (hts _ (ww_a2 (i := 55) (w := Cond.code Lib.Math.min.name Lib.Math.min.code 2 (some .int)) rfl rfl)) hd (show ((rest.map (qq_g ad)).map fun v => v.category).sum + 13 ≤ 40 * d by rw [hw]; omega) (Nat.le_refl _) (Nat.le_refl _) hdg ?_
    exact kk _ w hT ls H locs hP hD hS hl
  · exact hT.elim
theorem cf_mminl {l : Launch} {own : String} {cc : ByteArray} {nL i d : Nat} (hd : 1 ≤ d) (hlk : Cond.methodLink own i Lib.MathLoose.min_long.x ∈ ww_T) : qq_cf l ww_T ww_N vwCl ww_sh ww_ro ww_zs own cc nL (ww_rm d) 0 0 (.invokestatic i) (2, T_J9_min_f86c9) := by
  intro p e s m args below meth c D tys tC ad Q pc X hdg lv As rest w P' hn hwd hT kk ls H locs hP hD hS hl
  have hT : T_J9_min_f86c9 As w P' := hT
  unfold T_J9_min_f86c9 at hT
  split at hT
  · rename_i x y
    have hts := X.1.2.2.2.2
    have hw := qq_wd_cat ad rest
    refine va_mmin_long X.1.1 X.1.2.1 (by rw [X.1.2.2.1, hl.1]) X.1.2.2.2.1 (hts _ hlk) (hts _ (ww_a3 (i := 236) (w := Cond.static Lib.MathLoose.min_long.x) rfl rfl)) (hts _ (ww_a1 (i := 11) (w := Cond.initialized "java/lang/Math") rfl rfl)) (hts _ (ww_a3 (i := 237) (w := Cond.code Lib.MathLoose.min_long.x Lib.MathLoose.min_long.code 4 (some .long)) rfl rfl)) hd (show ((rest.map (qq_g ad)).map fun v => v.category).sum + 15 ≤ 40 * d by rw [hw]; omega) (Nat.le_refl _) (Nat.le_refl _) hdg ?_
    exact kk _ w hT ls H locs hP hD hS hl
  · exact hT.elim
abbrev cs_X0_answer : List (Nat × qq_t) := []
def T_X0_answer : qq_t := fun As w P => match As with
  | [.ref 6, .int a0] => qq_go ww_sh ww_ro cs_X0_answer (qq_at 18 kd_X0_answer) (some .int) (fun _ => false) P qq_no 14 0 (lv_args 0 [.ref 6, .int a0]) [] w
  | _ => False
theorem bd_X0_answer : ∀ As w P K, qq_Sat ww_sh ww_ro cs_X0_answer (qq_at 18 kd_X0_answer) (some .int) P K → T_X0_answer As w P → K 0 (lv_args 0 As) [] w := by
  intro As w P K S h
  unfold T_X0_answer at h
  split at h
  · exact qq_go_all S h
  · exact h.elim
theorem ha_X0_answer : ∀ As w P, T_X0_answer As w P → qq_wd As ≤ 2 := by
  intro As w P h
  unfold T_X0_answer at h
  split at h
  · exact Nat.le_of_ble_eq_true rfl
  · exact h.elim
theorem hv_X0_answer : ∀ As w P, T_X0_answer As w P → ∃ (k : Nat) (r : List Value) (fs : List Nat), As = .ref k :: r ∧ ww_sh[k]? = some (.inr (0, fs)) := by
  intro As w P h
  unfold T_X0_answer at h
  split at h
  · exact ⟨_, _, _, rfl, rfl⟩
  · exact h.elim
set_option maxRecDepth 100000 in
theorem M_X0_answer (l : Launch) : qq_M l ww_T ww_N vwCl ww_sh ww_ro ww_zs yX0_answer cX0_answer 2 (some .int) (ww_rm 0) T_X0_answer := by
  refine qq_mk (host := RX7) (is := ki_X0_answer) (cs := cs_X0_answer) (by decide) ww_k1 wl_X0 ww_so ww_so2 kc_X0_answer kv_X0_answer kg_X0_answer ?_ ha_X0_answer bd_X0_answer
  intro k i q hi hq
  simp [cs_X0_answer] at hq
abbrev cs_X1_rowAt : List (Nat × qq_t) := []
def T_X1_rowAt : qq_t := fun As w P => match As with
  | [.int a0, .int a1] => qq_go ww_sh ww_ro cs_X1_rowAt (qq_at 9 kd_X1_rowAt) (some .int) (fun _ => false) P qq_no 9 0 (lv_args 0 [.int a0, .int a1]) [] w
  | _ => False
theorem bd_X1_rowAt : ∀ As w P K, qq_Sat ww_sh ww_ro cs_X1_rowAt (qq_at 9 kd_X1_rowAt) (some .int) P K → T_X1_rowAt As w P → K 0 (lv_args 0 As) [] w := by
  intro As w P K S h
  unfold T_X1_rowAt at h
  split at h
  · exact qq_go_all S h
  · exact h.elim
theorem ha_X1_rowAt : ∀ As w P, T_X1_rowAt As w P → qq_wd As ≤ 2 := by
  intro As w P h
  unfold T_X1_rowAt at h
  split at h
  · exact Nat.le_of_ble_eq_true rfl
  · exact h.elim
set_option maxRecDepth 100000 in
theorem M_X1_rowAt (l : Launch) : qq_M l ww_T ww_N vwCl ww_sh ww_ro ww_zs yX1_rowAt cX1_rowAt 2 (some .int) (ww_rm 0) T_X1_rowAt := by
  refine qq_mk (host := RX7) (is := ki_X1_rowAt) (cs := cs_X1_rowAt) (by decide) ww_k1 wl_X1 ww_so ww_so2 kc_X1_rowAt kv_X1_rowAt kg_X1_rowAt ?_ ha_X1_rowAt bd_X1_rowAt
  intro k i q hi hq
  simp [cs_X1_rowAt] at hq
abbrev cs_X1_tellRow : List (Nat × qq_t) := [(2, T_X1_rowAt)]
def T_X1_tellRow : qq_t := fun As w P => match As with
  | [.ref 2, .int a0, .int a1, .int a2, .int a3] => qq_go ww_sh ww_ro cs_X1_tellRow (qq_at 26 kd_X1_tellRow) none (fun _ => false) P qq_no 17 0 (lv_args 0 [.ref 2, .int a0, .int a1, .int a2, .int a3]) [] w
  | _ => False
theorem bd_X1_tellRow : ∀ As w P K, qq_Sat ww_sh ww_ro cs_X1_tellRow (qq_at 26 kd_X1_tellRow) none P K → T_X1_tellRow As w P → K 0 (lv_args 0 As) [] w := by
  intro As w P K S h
  unfold T_X1_tellRow at h
  split at h
  · exact qq_go_all S h
  · exact h.elim
theorem ha_X1_tellRow : ∀ As w P, T_X1_tellRow As w P → qq_wd As ≤ 5 := by
  intro As w P h
  unfold T_X1_tellRow at h
  split at h
  · exact Nat.le_of_ble_eq_true rfl
  · exact h.elim
theorem hv_X1_tellRow : ∀ As w P, T_X1_tellRow As w P → ∃ (k : Nat) (r : List Value) (fs : List Nat), As = .ref k :: r ∧ ww_sh[k]? = some (.inr (1, fs)) := by
  intro As w P h
  unfold T_X1_tellRow at h
  split at h
  · exact ⟨_, _, _, rfl, rfl⟩
  · exact h.elim
set_option maxRecDepth 100000 in
theorem M_X1_tellRow (l : Launch) : qq_M l ww_T ww_N vwCl ww_sh ww_ro ww_zs yX1_tellRow cX1_tellRow 5 none (ww_rm 1) T_X1_tellRow := by
  refine qq_mk (host := RX7) (is := ki_X1_tellRow) (cs := cs_X1_tellRow) (by decide) ww_k1 wl_X1 ww_so ww_so2 kc_X1_tellRow kv_X1_tellRow kg_X1_tellRow ?_ ha_X1_tellRow bd_X1_tellRow
  intro k i q hi hq
  match k, hi, hq with
  | 0, hi, hq => cases hi; cases hq; exact fun p e s m args below meth c D tys tC ad Q pc X hdg => qq_cS X ww_gd (M_X1_rowAt l) kf_X1_rowAt.1 (Or.inl (ww_a2 (i := 209) (w := Cond.methodLink RX1 29 yX1_rowAt) rfl rfl)) kf_X1_rowAt.2.1 kf_X1_rowAt.2.2 ⟨by decide, by decide, by decide +kernel⟩ rfl rfl ⟨by decide, by decide⟩ ⟨Nat.le_refl _, Nat.le_refl _⟩ hdg
  | n + 1, hi, hq => simp [cs_X1_tellRow] at hq
abbrev cs_X2_end : List (Nat × qq_t) := []
def T_X2_end : qq_t := fun As w P => match As with
  | [.ref 4] => qq_go ww_sh ww_ro cs_X2_end (qq_at 6 kd_X2_end) none (fun _ => false) P qq_no 5 0 (lv_args 0 [.ref 4]) [] w
  | _ => False
theorem bd_X2_end : ∀ As w P K, qq_Sat ww_sh ww_ro cs_X2_end (qq_at 6 kd_X2_end) none P K → T_X2_end As w P → K 0 (lv_args 0 As) [] w := by
  intro As w P K S h
  unfold T_X2_end at h
  split at h
  · exact qq_go_all S h
  · exact h.elim
theorem ha_X2_end : ∀ As w P, T_X2_end As w P → qq_wd As ≤ 1 := by
  intro As w P h
  unfold T_X2_end at h
  split at h
  · exact Nat.le_of_ble_eq_true rfl
  · exact h.elim
theorem hv_X2_end : ∀ As w P, T_X2_end As w P → ∃ (k : Nat) (r : List Value) (fs : List Nat), As = .ref k :: r ∧ ww_sh[k]? = some (.inr (2, fs)) := by
  intro As w P h
  unfold T_X2_end at h
  split at h
  · exact ⟨_, _, _, rfl, rfl⟩
  · exact h.elim
set_option maxRecDepth 100000 in
theorem M_X2_end (l : Launch) : qq_M l ww_T ww_N vwCl ww_sh ww_ro ww_zs yX2_end cX2_end 1 none (ww_rm 0) T_X2_end := by
  refine qq_mk (host := RX7) (is := ki_X2_end) (cs := cs_X2_end) (by decide) ww_k1 wl_X2 ww_so ww_so2 kc_X2_end kv_X2_end kg_X2_end ?_ ha_X2_end bd_X2_end
  intro k i q hi hq
  simp [cs_X2_end] at hq
abbrev cs_X2_whole : List (Nat × qq_t) := []
def T_X2_whole : qq_t := fun As w P => match As with
  | [.ref 4, .int a0, .int a1] => qq_go ww_sh ww_ro cs_X2_whole (qq_at 12 kd_X2_whole) (some .long) (fun _ => false) P qq_no 10 0 (lv_args 0 [.ref 4, .int a0, .int a1]) [] w
  | _ => False
theorem bd_X2_whole : ∀ As w P K, qq_Sat ww_sh ww_ro cs_X2_whole (qq_at 12 kd_X2_whole) (some .long) P K → T_X2_whole As w P → K 0 (lv_args 0 As) [] w := by
  intro As w P K S h
  unfold T_X2_whole at h
  split at h
  · exact qq_go_all S h
  · exact h.elim
theorem ha_X2_whole : ∀ As w P, T_X2_whole As w P → qq_wd As ≤ 3 := by
  intro As w P h
  unfold T_X2_whole at h
  split at h
  · exact Nat.le_of_ble_eq_true rfl
  · exact h.elim
theorem hv_X2_whole : ∀ As w P, T_X2_whole As w P → ∃ (k : Nat) (r : List Value) (fs : List Nat), As = .ref k :: r ∧ ww_sh[k]? = some (.inr (2, fs)) := by
  intro As w P h
  unfold T_X2_whole at h
  split at h
  · exact ⟨_, _, _, rfl, rfl⟩
  · exact h.elim
set_option maxRecDepth 100000 in
theorem M_X2_whole (l : Launch) : qq_M l ww_T ww_N vwCl ww_sh ww_ro ww_zs yX2_whole cX2_whole 3 (some .long) (ww_rm 0) T_X2_whole := by
  refine qq_mk (host := RX7) (is := ki_X2_whole) (cs := cs_X2_whole) (by decide) ww_k1 wl_X2 ww_so ww_so2 kc_X2_whole kv_X2_whole kg_X2_whole ?_ ha_X2_whole bd_X2_whole
  intro k i q hi hq
  simp [cs_X2_whole] at hq
abbrev cs_X2_entry : List (Nat × qq_t) := []
def T_X2_entry : qq_t := fun As w P => match As with
  | [.ref 4, .int a0, .int a1] => qq_go ww_sh ww_ro cs_X2_entry (qq_at 12 kd_X2_entry) (some .long) (fun _ => false) P qq_no 10 0 (lv_args 0 [.ref 4, .int a0, .int a1]) [] w
  | _ => False
theorem bd_X2_entry : ∀ As w P K, qq_Sat ww_sh ww_ro cs_X2_entry (qq_at 12 kd_X2_entry) (some .long) P K → T_X2_entry As w P → K 0 (lv_args 0 As) [] w := by
  intro As w P K S h
  unfold T_X2_entry at h
  split at h
  · exact qq_go_all S h
  · exact h.elim
theorem ha_X2_entry : ∀ As w P, T_X2_entry As w P → qq_wd As ≤ 3 := by
  intro As w P h
  unfold T_X2_entry at h
  split at h
  · exact Nat.le_of_ble_eq_true rfl
  · exact h.elim
theorem hv_X2_entry : ∀ As w P, T_X2_entry As w P → ∃ (k : Nat) (r : List Value) (fs : List Nat), As = .ref k :: r ∧ ww_sh[k]? = some (.inr (2, fs)) := by
  intro As w P h
  unfold T_X2_entry at h
  split at h
  · exact ⟨_, _, _, rfl, rfl⟩
  · exact h.elim
set_option maxRecDepth 100000 in
theorem M_X2_entry (l : Launch) : qq_M l ww_T ww_N vwCl ww_sh ww_ro ww_zs yX2_entry cX2_entry 3 (some .long) (ww_rm 0) T_X2_entry := by
  refine qq_mk (host := RX7) (is := ki_X2_entry) (cs := cs_X2_entry) (by decide) ww_k1 wl_X2 ww_so ww_so2 kc_X2_entry kv_X2_entry kg_X2_entry ?_ ha_X2_entry bd_X2_entry
  intro k i q hi hq
  simp [cs_X2_entry] at hq
abbrev cs_X2_level : List (Nat × qq_t) := []
def T_X2_level : qq_t := fun As w P => match As with
  | [.ref 4, .int a0, .int a1, .int a2] => qq_go ww_sh ww_ro cs_X2_level (qq_at 20 kd_X2_level) (some .long) (fun _ => false) P qq_no 15 0 (lv_args 0 [.ref 4, .int a0, .int a1, .int a2]) [] w
  | _ => False
theorem bd_X2_level : ∀ As w P K, qq_Sat ww_sh ww_ro cs_X2_level (qq_at 20 kd_X2_level) (some .long) P K → T_X2_level As w P → K 0 (lv_args 0 As) [] w := by
  intro As w P K S h
  unfold T_X2_level at h
  split at h
  · exact qq_go_all S h
  · exact h.elim
theorem ha_X2_level : ∀ As w P, T_X2_level As w P → qq_wd As ≤ 4 := by
  intro As w P h
  unfold T_X2_level at h
  split at h
  · exact Nat.le_of_ble_eq_true rfl
  · exact h.elim
theorem hv_X2_level : ∀ As w P, T_X2_level As w P → ∃ (k : Nat) (r : List Value) (fs : List Nat), As = .ref k :: r ∧ ww_sh[k]? = some (.inr (2, fs)) := by
  intro As w P h
  unfold T_X2_level at h
  split at h
  · exact ⟨_, _, _, rfl, rfl⟩
  · exact h.elim
set_option maxRecDepth 100000 in
theorem M_X2_level (l : Launch) : qq_M l ww_T ww_N vwCl ww_sh ww_ro ww_zs yX2_level cX2_level 4 (some .long) (ww_rm 0) T_X2_level := by
  refine qq_mk (host := RX7) (is := ki_X2_level) (cs := cs_X2_level) (by decide) ww_k1 wl_X2 ww_so ww_so2 kc_X2_level kv_X2_level kg_X2_level ?_ ha_X2_level bd_X2_level
  intro k i q hi hq
  simp [cs_X2_level] at hq
abbrev cs_X2_sum : List (Nat × qq_t) := [(2, T_J9_min_f86c9)]
def T_X2_sum : qq_t := fun As w P => match As with
  | [.long a0, .long a1] => qq_go ww_sh ww_ro cs_X2_sum (qq_at 10 kd_X2_sum) (some .long) (fun _ => false) P qq_no 7 0 (lv_args 0 [.long a0, .long a1]) [] w
  | _ => False
theorem bd_X2_sum : ∀ As w P K, qq_Sat ww_sh ww_ro cs_X2_sum (qq_at 10 kd_X2_sum) (some .long) P K → T_X2_sum As w P → K 0 (lv_args 0 As) [] w := by
  intro As w P K S h
  unfold T_X2_sum at h
  split at h
  · exact qq_go_all S h
  · exact h.elim
theorem ha_X2_sum : ∀ As w P, T_X2_sum As w P → qq_wd As ≤ 4 := by
  intro As w P h
  unfold T_X2_sum at h
  split at h
  · exact Nat.le_of_ble_eq_true rfl
  · exact h.elim
set_option maxRecDepth 100000 in
theorem M_X2_sum (l : Launch) : qq_M l ww_T ww_N vwCl ww_sh ww_ro ww_zs yX2_sum cX2_sum 4 (some .long) (ww_rm 1) T_X2_sum := by
  refine qq_mk (host := RX7) (is := ki_X2_sum) (cs := cs_X2_sum) (by decide) ww_k1 wl_X2 ww_so ww_so2 kc_X2_sum kv_X2_sum kg_X2_sum ?_ ha_X2_sum bd_X2_sum
  intro k i q hi hq
  match k, hi, hq with
  | 0, hi, hq => cases hi; cases hq; exact cf_mminl (by decide) (ww_a3 (i := 235) (w := Cond.methodLink RX2 63 Lib.MathLoose.min_long.x) rfl rfl)
  | n + 1, hi, hq => simp [cs_X2_sum] at hq
abbrev cs_X3_hasRoomFor : List (Nat × qq_t) := []
def T_X3_hasRoomFor : qq_t := fun As w P => match As with
  | [.ref 1, .int a0] => qq_go ww_sh ww_ro cs_X3_hasRoomFor (qq_at 17 kd_X3_hasRoomFor) (some .boolean) (fun _ => false) P qq_no 11 0 (lv_args 0 [.ref 1, .int a0]) [] w
  | _ => False
theorem bd_X3_hasRoomFor : ∀ As w P K, qq_Sat ww_sh ww_ro cs_X3_hasRoomFor (qq_at 17 kd_X3_hasRoomFor) (some .boolean) P K → T_X3_hasRoomFor As w P → K 0 (lv_args 0 As) [] w := by
  intro As w P K S h
  unfold T_X3_hasRoomFor at h
  split at h
  · exact qq_go_all S h
  · exact h.elim
theorem ha_X3_hasRoomFor : ∀ As w P, T_X3_hasRoomFor As w P → qq_wd As ≤ 2 := by
  intro As w P h
  unfold T_X3_hasRoomFor at h
  split at h
  · exact Nat.le_of_ble_eq_true rfl
  · exact h.elim
theorem hv_X3_hasRoomFor : ∀ As w P, T_X3_hasRoomFor As w P → ∃ (k : Nat) (r : List Value) (fs : List Nat), As = .ref k :: r ∧ ww_sh[k]? = some (.inr (3, fs)) := by
  intro As w P h
  unfold T_X3_hasRoomFor at h
  split at h
  · exact ⟨_, _, _, rfl, rfl⟩
  · exact h.elim
set_option maxRecDepth 100000 in
theorem M_X3_hasRoomFor (l : Launch) : qq_M l ww_T ww_N vwCl ww_sh ww_ro ww_zs yX3_hasRoomFor cX3_hasRoomFor 2 (some .boolean) (ww_rm 0) T_X3_hasRoomFor := by
  refine qq_mk (host := RX7) (is := ki_X3_hasRoomFor) (cs := cs_X3_hasRoomFor) (by decide) ww_k1 wl_X3 ww_so ww_so2 kc_X3_hasRoomFor kv_X3_hasRoomFor kg_X3_hasRoomFor ?_ ha_X3_hasRoomFor bd_X3_hasRoomFor
  intro k i q hi hq
  simp [cs_X3_hasRoomFor] at hq
abbrev cs_X3_hasVariable : List (Nat × qq_t) := []
def T_X3_hasVariable : qq_t := fun As w P => match As with
  | [.ref 1, .int a0, .int a1] => qq_go ww_sh ww_ro cs_X3_hasVariable (qq_at 22 kd_X3_hasVariable) (some .boolean) (fun _ => false) P qq_no 15 0 (lv_args 0 [.ref 1, .int a0, .int a1]) [] w
  | _ => False
theorem bd_X3_hasVariable : ∀ As w P K, qq_Sat ww_sh ww_ro cs_X3_hasVariable (qq_at 22 kd_X3_hasVariable) (some .boolean) P K → T_X3_hasVariable As w P → K 0 (lv_args 0 As) [] w := by
  intro As w P K S h
  unfold T_X3_hasVariable at h
  split at h
  · exact qq_go_all S h
  · exact h.elim
theorem ha_X3_hasVariable : ∀ As w P, T_X3_hasVariable As w P → qq_wd As ≤ 3 := by
  intro As w P h
  unfold T_X3_hasVariable at h
  split at h
  · exact Nat.le_of_ble_eq_true rfl
  · exact h.elim
theorem hv_X3_hasVariable : ∀ As w P, T_X3_hasVariable As w P → ∃ (k : Nat) (r : List Value) (fs : List Nat), As = .ref k :: r ∧ ww_sh[k]? = some (.inr (3, fs)) := by
  intro As w P h
  unfold T_X3_hasVariable at h
  split at h
  · exact ⟨_, _, _, rfl, rfl⟩
  · exact h.elim
set_option maxRecDepth 100000 in
theorem M_X3_hasVariable (l : Launch) : qq_M l ww_T ww_N vwCl ww_sh ww_ro ww_zs yX3_hasVariable cX3_hasVariable 3 (some .boolean) (ww_rm 0) T_X3_hasVariable := by
  refine qq_mk (host := RX7) (is := ki_X3_hasVariable) (cs := cs_X3_hasVariable) (by decide) ww_k1 wl_X3 ww_so ww_so2 kc_X3_hasVariable kv_X3_hasVariable kg_X3_hasVariable ?_ ha_X3_hasVariable bd_X3_hasVariable
  intro k i q hi hq
  simp [cs_X3_hasVariable] at hq
abbrev cs_X3_of : List (Nat × qq_t) := []
def T_X3_of : qq_t := fun As w P => match As with
  | [.ref 1, .int a0, .int a1] => qq_go ww_sh ww_ro cs_X3_of (qq_at 12 kd_X3_of) (some .int) (fun _ => false) P qq_no 10 0 (lv_args 0 [.ref 1, .int a0, .int a1]) [] w
  | _ => False
theorem bd_X3_of : ∀ As w P K, qq_Sat ww_sh ww_ro cs_X3_of (qq_at 12 kd_X3_of) (some .int) P K → T_X3_of As w P → K 0 (lv_args 0 As) [] w := by
  intro As w P K S h
  unfold T_X3_of at h
  split at h
  · exact qq_go_all S h
  · exact h.elim
theorem ha_X3_of : ∀ As w P, T_X3_of As w P → qq_wd As ≤ 3 := by
  intro As w P h
  unfold T_X3_of at h
  split at h
  · exact Nat.le_of_ble_eq_true rfl
  · exact h.elim
theorem hv_X3_of : ∀ As w P, T_X3_of As w P → ∃ (k : Nat) (r : List Value) (fs : List Nat), As = .ref k :: r ∧ ww_sh[k]? = some (.inr (3, fs)) := by
  intro As w P h
  unfold T_X3_of at h
  split at h
  · exact ⟨_, _, _, rfl, rfl⟩
  · exact h.elim
set_option maxRecDepth 100000 in
theorem M_X3_of (l : Launch) : qq_M l ww_T ww_N vwCl ww_sh ww_ro ww_zs yX3_of cX3_of 3 (some .int) (ww_rm 0) T_X3_of := by
  refine qq_mk (host := RX7) (is := ki_X3_of) (cs := cs_X3_of) (by decide) ww_k1 wl_X3 ww_so ww_so2 kc_X3_of kv_X3_of kg_X3_of ?_ ha_X3_of bd_X3_of
  intro k i q hi hq
  simp [cs_X3_of] at hq
abbrev cs_X3_tell : List (Nat × qq_t) := []
def T_X3_tell : qq_t := fun As w P => match As with
  | [.ref 1, .int a0, .int a1, .int a2] => qq_go ww_sh ww_ro cs_X3_tell (qq_at 13 kd_X3_tell) none (fun _ => false) P qq_no 11 0 (lv_args 0 [.ref 1, .int a0, .int a1, .int a2]) [] w
  | _ => False
theorem bd_X3_tell : ∀ As w P K, qq_Sat ww_sh ww_ro cs_X3_tell (qq_at 13 kd_X3_tell) none P K → T_X3_tell As w P → K 0 (lv_args 0 As) [] w := by
  intro As w P K S h
  unfold T_X3_tell at h
  split at h
  · exact qq_go_all S h
  · exact h.elim
theorem ha_X3_tell : ∀ As w P, T_X3_tell As w P → qq_wd As ≤ 4 := by
  intro As w P h
  unfold T_X3_tell at h
  split at h
  · exact Nat.le_of_ble_eq_true rfl
  · exact h.elim
theorem hv_X3_tell : ∀ As w P, T_X3_tell As w P → ∃ (k : Nat) (r : List Value) (fs : List Nat), As = .ref k :: r ∧ ww_sh[k]? = some (.inr (3, fs)) := by
  intro As w P h
  unfold T_X3_tell at h
  split at h
  · exact ⟨_, _, _, rfl, rfl⟩
  · exact h.elim
set_option maxRecDepth 100000 in
theorem M_X3_tell (l : Launch) : qq_M l ww_T ww_N vwCl ww_sh ww_ro ww_zs yX3_tell cX3_tell 4 none (ww_rm 0) T_X3_tell := by
  refine qq_mk (host := RX7) (is := ki_X3_tell) (cs := cs_X3_tell) (by decide) ww_k1 wl_X3 ww_so ww_so2 kc_X3_tell kv_X3_tell kg_X3_tell ?_ ha_X3_tell bd_X3_tell
  intro k i q hi hq
  simp [cs_X3_tell] at hq
abbrev cs_X3_isCall : List (Nat × qq_t) := [(3, T_X3_of)]
def T_X3_isCall : qq_t := fun As w P => match As with
  | [.ref 1, .int a0] => qq_go ww_sh ww_ro cs_X3_isCall (qq_at 17 kd_X3_isCall) (some .boolean) (fun _ => false) P qq_no 11 0 (lv_args 0 [.ref 1, .int a0]) [] w
  | _ => False
theorem bd_X3_isCall : ∀ As w P K, qq_Sat ww_sh ww_ro cs_X3_isCall (qq_at 17 kd_X3_isCall) (some .boolean) P K → T_X3_isCall As w P → K 0 (lv_args 0 As) [] w := by
  intro As w P K S h
  unfold T_X3_isCall at h
  split at h
  · exact qq_go_all S h
  · exact h.elim
theorem ha_X3_isCall : ∀ As w P, T_X3_isCall As w P → qq_wd As ≤ 2 := by
  intro As w P h
  unfold T_X3_isCall at h
  split at h
  · exact Nat.le_of_ble_eq_true rfl
  · exact h.elim
theorem hv_X3_isCall : ∀ As w P, T_X3_isCall As w P → ∃ (k : Nat) (r : List Value) (fs : List Nat), As = .ref k :: r ∧ ww_sh[k]? = some (.inr (3, fs)) := by
  intro As w P h
  unfold T_X3_isCall at h
  split at h
  · exact ⟨_, _, _, rfl, rfl⟩
  · exact h.elim
set_option maxRecDepth 100000 in
theorem M_X3_isCall (l : Launch) : qq_M l ww_T ww_N vwCl ww_sh ww_ro ww_zs yX3_isCall cX3_isCall 2 (some .boolean) (ww_rm 1) T_X3_isCall := by
  refine qq_mk (host := RX7) (is := ki_X3_isCall) (cs := cs_X3_isCall) (by decide) ww_k1 wl_X3 ww_so ww_so2 kc_X3_isCall kv_X3_isCall kg_X3_isCall ?_ ha_X3_isCall bd_X3_isCall
  intro k i q hi hq
  match k, hi, hq with
  | 0, hi, hq => cases hi; cases hq; exact fun p e s m args below meth c D tys tC ad Q pc X hdg => qq_cV (ci := 3) X ww_gd (M_X3_of l) kf_X3_of.1 (Or.inl (ww_a2 (i := 144) (w := Cond.methodLink RX3 58 yX3_of) rfl rfl)) kf_X3_of.2.1 kf_X3_of.2.2.1 kf_X3_of.2.2.2 ⟨by decide, by decide, by decide +kernel⟩ rfl rfl rfl ⟨by decide, by decide⟩ ⟨Nat.le_refl _, Nat.le_refl _⟩ hv_X3_of hdg
  | n + 1, hi, hq => simp [cs_X3_isCall] at hq
abbrev cs_X3_isCallOf : List (Nat × qq_t) := [(3, T_X3_of)]
def T_X3_isCallOf : qq_t := fun As w P => match As with
  | [.ref 1, .int a0, .int a1] => qq_go ww_sh ww_ro cs_X3_isCallOf (qq_at 27 kd_X3_isCallOf) (some .boolean) (fun _ => false) P qq_no 17 0 (lv_args 0 [.ref 1, .int a0, .int a1]) [] w
  | _ => False
theorem bd_X3_isCallOf : ∀ As w P K, qq_Sat ww_sh ww_ro cs_X3_isCallOf (qq_at 27 kd_X3_isCallOf) (some .boolean) P K → T_X3_isCallOf As w P → K 0 (lv_args 0 As) [] w := by
  intro As w P K S h
  unfold T_X3_isCallOf at h
  split at h
  · exact qq_go_all S h
  · exact h.elim
theorem ha_X3_isCallOf : ∀ As w P, T_X3_isCallOf As w P → qq_wd As ≤ 3 := by
  intro As w P h
  unfold T_X3_isCallOf at h
  split at h
  · exact Nat.le_of_ble_eq_true rfl
  · exact h.elim
theorem hv_X3_isCallOf : ∀ As w P, T_X3_isCallOf As w P → ∃ (k : Nat) (r : List Value) (fs : List Nat), As = .ref k :: r ∧ ww_sh[k]? = some (.inr (3, fs)) := by
  intro As w P h
  unfold T_X3_isCallOf at h
  split at h
  · exact ⟨_, _, _, rfl, rfl⟩
  · exact h.elim
set_option maxRecDepth 100000 in
theorem M_X3_isCallOf (l : Launch) : qq_M l ww_T ww_N vwCl ww_sh ww_ro ww_zs yX3_isCallOf cX3_isCallOf 3 (some .boolean) (ww_rm 1) T_X3_isCallOf := by
  refine qq_mk (host := RX7) (is := ki_X3_isCallOf) (cs := cs_X3_isCallOf) (by decide) ww_k1 wl_X3 ww_so ww_so2 kc_X3_isCallOf kv_X3_isCallOf kg_X3_isCallOf ?_ ha_X3_isCallOf bd_X3_isCallOf
  intro k i q hi hq
  match k, hi, hq with
  | 0, hi, hq => cases hi; cases hq; exact fun p e s m args below meth c D tys tC ad Q pc X hdg => qq_cV (ci := 3) X ww_gd (M_X3_of l) kf_X3_of.1 (Or.inl (ww_a2 (i := 144) (w := Cond.methodLink RX3 58 yX3_of) rfl rfl)) kf_X3_of.2.1 kf_X3_of.2.2.1 kf_X3_of.2.2.2 ⟨by decide, by decide, by decide +kernel⟩ rfl rfl rfl ⟨by decide, by decide⟩ ⟨Nat.le_refl _, Nat.le_refl _⟩ hv_X3_of hdg
  | n + 1, hi, hq => simp [cs_X3_isCallOf] at hq
abbrev cs_X3_leaveOf : List (Nat × qq_t) := []
def T_X3_leaveOf : qq_t := fun As w P => match As with
  | [.ref 1, .int a0] => qq_go ww_sh ww_ro cs_X3_leaveOf (qq_at 9 kd_X3_leaveOf) (some .int) (fun _ => false) P qq_no 8 0 (lv_args 0 [.ref 1, .int a0]) [] w
  | _ => False
theorem bd_X3_leaveOf : ∀ As w P K, qq_Sat ww_sh ww_ro cs_X3_leaveOf (qq_at 9 kd_X3_leaveOf) (some .int) P K → T_X3_leaveOf As w P → K 0 (lv_args 0 As) [] w := by
  intro As w P K S h
  unfold T_X3_leaveOf at h
  split at h
  · exact qq_go_all S h
  · exact h.elim
theorem ha_X3_leaveOf : ∀ As w P, T_X3_leaveOf As w P → qq_wd As ≤ 2 := by
  intro As w P h
  unfold T_X3_leaveOf at h
  split at h
  · exact Nat.le_of_ble_eq_true rfl
  · exact h.elim
theorem hv_X3_leaveOf : ∀ As w P, T_X3_leaveOf As w P → ∃ (k : Nat) (r : List Value) (fs : List Nat), As = .ref k :: r ∧ ww_sh[k]? = some (.inr (3, fs)) := by
  intro As w P h
  unfold T_X3_leaveOf at h
  split at h
  · exact ⟨_, _, _, rfl, rfl⟩
  · exact h.elim
set_option maxRecDepth 100000 in
theorem M_X3_leaveOf (l : Launch) : qq_M l ww_T ww_N vwCl ww_sh ww_ro ww_zs yX3_leaveOf cX3_leaveOf 2 (some .int) (ww_rm 0) T_X3_leaveOf := by
  refine qq_mk (host := RX7) (is := ki_X3_leaveOf) (cs := cs_X3_leaveOf) (by decide) ww_k1 wl_X3 ww_so ww_so2 kc_X3_leaveOf kv_X3_leaveOf kg_X3_leaveOf ?_ ha_X3_leaveOf bd_X3_leaveOf
  intro k i q hi hq
  simp [cs_X3_leaveOf] at hq
abbrev cs_X3_localsFrom : List (Nat × qq_t) := []
def T_X3_localsFrom : qq_t := fun As w P => match As with
  | [.ref 1, .int a0, .int a1] => qq_go ww_sh ww_ro cs_X3_localsFrom (qq_at 17 kd_X3_localsFrom) (some .int) (fun _ => false) P qq_no 16 0 (lv_args 0 [.ref 1, .int a0, .int a1]) [] w
  | _ => False
theorem bd_X3_localsFrom : ∀ As w P K, qq_Sat ww_sh ww_ro cs_X3_localsFrom (qq_at 17 kd_X3_localsFrom) (some .int) P K → T_X3_localsFrom As w P → K 0 (lv_args 0 As) [] w := by
  intro As w P K S h
  unfold T_X3_localsFrom at h
  split at h
  · exact qq_go_all S h
  · exact h.elim
theorem ha_X3_localsFrom : ∀ As w P, T_X3_localsFrom As w P → qq_wd As ≤ 3 := by
  intro As w P h
  unfold T_X3_localsFrom at h
  split at h
  · exact Nat.le_of_ble_eq_true rfl
  · exact h.elim
theorem hv_X3_localsFrom : ∀ As w P, T_X3_localsFrom As w P → ∃ (k : Nat) (r : List Value) (fs : List Nat), As = .ref k :: r ∧ ww_sh[k]? = some (.inr (3, fs)) := by
  intro As w P h
  unfold T_X3_localsFrom at h
  split at h
  · exact ⟨_, _, _, rfl, rfl⟩
  · exact h.elim
set_option maxRecDepth 100000 in
theorem M_X3_localsFrom (l : Launch) : qq_M l ww_T ww_N vwCl ww_sh ww_ro ww_zs yX3_localsFrom cX3_localsFrom 3 (some .int) (ww_rm 0) T_X3_localsFrom := by
  refine qq_mk (host := RX7) (is := ki_X3_localsFrom) (cs := cs_X3_localsFrom) (by decide) ww_k1 wl_X3 ww_so ww_so2 kc_X3_localsFrom kv_X3_localsFrom kg_X3_localsFrom ?_ ha_X3_localsFrom bd_X3_localsFrom
  intro k i q hi hq
  simp [cs_X3_localsFrom] at hq
abbrev cs_X3_mayLead : List (Nat × qq_t) := [(3, T_X3_of)]
def T_X3_mayLead : qq_t := fun As w P => match As with
  | [.ref 1, .int a0, .int a1] => qq_go ww_sh ww_ro cs_X3_mayLead (qq_at 59 kd_X3_mayLead) (some .boolean) (fun _ => false) P qq_no 35 0 (lv_args 0 [.ref 1, .int a0, .int a1]) [] w
  | _ => False
theorem bd_X3_mayLead : ∀ As w P K, qq_Sat ww_sh ww_ro cs_X3_mayLead (qq_at 59 kd_X3_mayLead) (some .boolean) P K → T_X3_mayLead As w P → K 0 (lv_args 0 As) [] w := by
  intro As w P K S h
  unfold T_X3_mayLead at h
  split at h
  · exact qq_go_all S h
  · exact h.elim
theorem ha_X3_mayLead : ∀ As w P, T_X3_mayLead As w P → qq_wd As ≤ 5 := by
  intro As w P h
  unfold T_X3_mayLead at h
  split at h
  · exact Nat.le_of_ble_eq_true rfl
  · exact h.elim
theorem hv_X3_mayLead : ∀ As w P, T_X3_mayLead As w P → ∃ (k : Nat) (r : List Value) (fs : List Nat), As = .ref k :: r ∧ ww_sh[k]? = some (.inr (3, fs)) := by
  intro As w P h
  unfold T_X3_mayLead at h
  split at h
  · exact ⟨_, _, _, rfl, rfl⟩
  · exact h.elim
set_option maxRecDepth 100000 in
theorem M_X3_mayLead (l : Launch) : qq_M l ww_T ww_N vwCl ww_sh ww_ro ww_zs yX3_mayLead cX3_mayLead 5 (some .boolean) (ww_rm 1) T_X3_mayLead := by
  refine qq_mk (host := RX7) (is := ki_X3_mayLead) (cs := cs_X3_mayLead) (by decide) ww_k1 wl_X3 ww_so ww_so2 kc_X3_mayLead kv_X3_mayLead kg_X3_mayLead ?_ ha_X3_mayLead bd_X3_mayLead
  intro k i q hi hq
  match k, hi, hq with
  | 0, hi, hq => cases hi; cases hq; exact fun p e s m args below meth c D tys tC ad Q pc X hdg => qq_cV (ci := 3) X ww_gd (M_X3_of l) kf_X3_of.1 (Or.inl (ww_a2 (i := 144) (w := Cond.methodLink RX3 58 yX3_of) rfl rfl)) kf_X3_of.2.1 kf_X3_of.2.2.1 kf_X3_of.2.2.2 ⟨by decide, by decide, by decide +kernel⟩ rfl rfl rfl ⟨by decide, by decide⟩ ⟨Nat.le_refl _, Nat.le_refl _⟩ hv_X3_of hdg
  | n + 1, hi, hq => simp [cs_X3_mayLead] at hq
abbrev cs_X3_leadsTo : List (Nat × qq_t) := []
def T_X3_leadsTo : qq_t := fun As w P => match As with
  | [.ref 1, .int a0, .int a1] => qq_go ww_sh ww_ro cs_X3_leadsTo (qq_at 21 kd_X3_leadsTo) (some .boolean) (fun _ => false) P qq_no 16 0 (lv_args 0 [.ref 1, .int a0, .int a1]) [] w
  | _ => False
theorem bd_X3_leadsTo : ∀ As w P K, qq_Sat ww_sh ww_ro cs_X3_leadsTo (qq_at 21 kd_X3_leadsTo) (some .boolean) P K → T_X3_leadsTo As w P → K 0 (lv_args 0 As) [] w := by
  intro As w P K S h
  unfold T_X3_leadsTo at h
  split at h
  · exact qq_go_all S h
  · exact h.elim
theorem ha_X3_leadsTo : ∀ As w P, T_X3_leadsTo As w P → qq_wd As ≤ 3 := by
  intro As w P h
  unfold T_X3_leadsTo at h
  split at h
  · exact Nat.le_of_ble_eq_true rfl
  · exact h.elim
theorem hv_X3_leadsTo : ∀ As w P, T_X3_leadsTo As w P → ∃ (k : Nat) (r : List Value) (fs : List Nat), As = .ref k :: r ∧ ww_sh[k]? = some (.inr (3, fs)) := by
  intro As w P h
  unfold T_X3_leadsTo at h
  split at h
  · exact ⟨_, _, _, rfl, rfl⟩
  · exact h.elim
set_option maxRecDepth 100000 in
theorem M_X3_leadsTo (l : Launch) : qq_M l ww_T ww_N vwCl ww_sh ww_ro ww_zs yX3_leadsTo cX3_leadsTo 3 (some .boolean) (ww_rm 0) T_X3_leadsTo := by
  refine qq_mk (host := RX7) (is := ki_X3_leadsTo) (cs := cs_X3_leadsTo) (by decide) ww_k1 wl_X3 ww_so ww_so2 kc_X3_leadsTo kv_X3_leadsTo kg_X3_leadsTo ?_ ha_X3_leadsTo bd_X3_leadsTo
  intro k i q hi hq
  simp [cs_X3_leadsTo] at hq
abbrev cs_X3_addEdge : List (Nat × qq_t) := []
def T_X3_addEdge : qq_t := fun As w P => match As with
  | [.ref 1, .int a0, .int a1] => qq_go ww_sh ww_ro cs_X3_addEdge (qq_at 43 kd_X3_addEdge) (some .int) (fun _ => false) P qq_no 32 0 (lv_args 0 [.ref 1, .int a0, .int a1]) [] w
  | _ => False
theorem bd_X3_addEdge : ∀ As w P K, qq_Sat ww_sh ww_ro cs_X3_addEdge (qq_at 43 kd_X3_addEdge) (some .int) P K → T_X3_addEdge As w P → K 0 (lv_args 0 As) [] w := by
  intro As w P K S h
  unfold T_X3_addEdge at h
  split at h
  · exact qq_go_all S h
  · exact h.elim
theorem ha_X3_addEdge : ∀ As w P, T_X3_addEdge As w P → qq_wd As ≤ 4 := by
  intro As w P h
  unfold T_X3_addEdge at h
  split at h
  · exact Nat.le_of_ble_eq_true rfl
  · exact h.elim
theorem hv_X3_addEdge : ∀ As w P, T_X3_addEdge As w P → ∃ (k : Nat) (r : List Value) (fs : List Nat), As = .ref k :: r ∧ ww_sh[k]? = some (.inr (3, fs)) := by
  intro As w P h
  unfold T_X3_addEdge at h
  split at h
  · exact ⟨_, _, _, rfl, rfl⟩
  · exact h.elim
set_option maxRecDepth 100000 in
theorem M_X3_addEdge (l : Launch) : qq_M l ww_T ww_N vwCl ww_sh ww_ro ww_zs yX3_addEdge cX3_addEdge 4 (some .int) (ww_rm 0) T_X3_addEdge := by
  refine qq_mk (host := RX7) (is := ki_X3_addEdge) (cs := cs_X3_addEdge) (by decide) ww_k1 wl_X3 ww_so ww_so2 kc_X3_addEdge kv_X3_addEdge kg_X3_addEdge ?_ ha_X3_addEdge bd_X3_addEdge
  intro k i q hi hq
  simp [cs_X3_addEdge] at hq
abbrev cs_X4_put : List (Nat × qq_t) := []
def T_X4_put : qq_t := fun As w P => match As with
  | [.ref 7, .int a0, .int a1] => qq_go ww_sh ww_ro cs_X4_put (qq_at 15 kd_X4_put) none (fun _ => false) P qq_no 12 0 (lv_args 0 [.ref 7, .int a0, .int a1]) [] w
  | _ => False
theorem bd_X4_put : ∀ As w P K, qq_Sat ww_sh ww_ro cs_X4_put (qq_at 15 kd_X4_put) none P K → T_X4_put As w P → K 0 (lv_args 0 As) [] w := by
  intro As w P K S h
  unfold T_X4_put at h
  split at h
  · exact qq_go_all S h
  · exact h.elim
theorem ha_X4_put : ∀ As w P, T_X4_put As w P → qq_wd As ≤ 3 := by
  intro As w P h
  unfold T_X4_put at h
  split at h
  · exact Nat.le_of_ble_eq_true rfl
  · exact h.elim
theorem hv_X4_put : ∀ As w P, T_X4_put As w P → ∃ (k : Nat) (r : List Value) (fs : List Nat), As = .ref k :: r ∧ ww_sh[k]? = some (.inr (4, fs)) := by
  intro As w P h
  unfold T_X4_put at h
  split at h
  · exact ⟨_, _, _, rfl, rfl⟩
  · exact h.elim
set_option maxRecDepth 100000 in
theorem M_X4_put (l : Launch) : qq_M l ww_T ww_N vwCl ww_sh ww_ro ww_zs yX4_put cX4_put 3 none (ww_rm 0) T_X4_put := by
  refine qq_mk (host := RX7) (is := ki_X4_put) (cs := cs_X4_put) (by decide) ww_k1 wl_X4 ww_so ww_so2 kc_X4_put kv_X4_put kg_X4_put ?_ ha_X4_put bd_X4_put
  intro k i q hi hq
  simp [cs_X4_put] at hq
abbrev cs_X5_end : List (Nat × qq_t) := []
def T_X5_end : qq_t := fun As w P => match As with
  | [.ref 3] => qq_go ww_sh ww_ro cs_X5_end (qq_at 16 kd_X5_end) none (fun _ => false) P qq_no 11 0 (lv_args 0 [.ref 3]) [] w
  | _ => False
theorem bd_X5_end : ∀ As w P K, qq_Sat ww_sh ww_ro cs_X5_end (qq_at 16 kd_X5_end) none P K → T_X5_end As w P → K 0 (lv_args 0 As) [] w := by
  intro As w P K S h
  unfold T_X5_end at h
  split at h
  · exact qq_go_all S h
  · exact h.elim
theorem ha_X5_end : ∀ As w P, T_X5_end As w P → qq_wd As ≤ 1 := by
  intro As w P h
  unfold T_X5_end at h
  split at h
  · exact Nat.le_of_ble_eq_true rfl
  · exact h.elim
theorem hv_X5_end : ∀ As w P, T_X5_end As w P → ∃ (k : Nat) (r : List Value) (fs : List Nat), As = .ref k :: r ∧ ww_sh[k]? = some (.inr (5, fs)) := by
  intro As w P h
  unfold T_X5_end at h
  split at h
  · exact ⟨_, _, _, rfl, rfl⟩
  · exact h.elim
set_option maxRecDepth 100000 in
theorem M_X5_end (l : Launch) : qq_M l ww_T ww_N vwCl ww_sh ww_ro ww_zs yX5_end cX5_end 1 none (ww_rm 0) T_X5_end := by
  refine qq_mk (host := RX7) (is := ki_X5_end) (cs := cs_X5_end) (by decide) ww_k1 wl_X5 ww_so ww_so2 kc_X5_end kv_X5_end kg_X5_end ?_ ha_X5_end bd_X5_end
  intro k i q hi hq
  simp [cs_X5_end] at hq
abbrev cs_X5_isDone : List (Nat × qq_t) := []
def T_X5_isDone : qq_t := fun As w P => match As with
  | [.ref 3] => qq_go ww_sh ww_ro cs_X5_isDone (qq_at 24 kd_X5_isDone) (some .boolean) (fun _ => false) P qq_no 13 0 (lv_args 0 [.ref 3]) [] w
  | _ => False
theorem bd_X5_isDone : ∀ As w P K, qq_Sat ww_sh ww_ro cs_X5_isDone (qq_at 24 kd_X5_isDone) (some .boolean) P K → T_X5_isDone As w P → K 0 (lv_args 0 As) [] w := by
  intro As w P K S h
  unfold T_X5_isDone at h
  split at h
  · exact qq_go_all S h
  · exact h.elim
theorem ha_X5_isDone : ∀ As w P, T_X5_isDone As w P → qq_wd As ≤ 1 := by
  intro As w P h
  unfold T_X5_isDone at h
  split at h
  · exact Nat.le_of_ble_eq_true rfl
  · exact h.elim
theorem hv_X5_isDone : ∀ As w P, T_X5_isDone As w P → ∃ (k : Nat) (r : List Value) (fs : List Nat), As = .ref k :: r ∧ ww_sh[k]? = some (.inr (5, fs)) := by
  intro As w P h
  unfold T_X5_isDone at h
  split at h
  · exact ⟨_, _, _, rfl, rfl⟩
  · exact h.elim
set_option maxRecDepth 100000 in
theorem M_X5_isDone (l : Launch) : qq_M l ww_T ww_N vwCl ww_sh ww_ro ww_zs yX5_isDone cX5_isDone 1 (some .boolean) (ww_rm 0) T_X5_isDone := by
  refine qq_mk (host := RX7) (is := ki_X5_isDone) (cs := cs_X5_isDone) (by decide) ww_k1 wl_X5 ww_so ww_so2 kc_X5_isDone kv_X5_isDone kg_X5_isDone ?_ ha_X5_isDone bd_X5_isDone
  intro k i q hi hq
  simp [cs_X5_isDone] at hq
abbrev cs_X5_step : List (Nat × qq_t) := []
def T_X5_step : qq_t := fun As w P => match As with
  | [.ref 3, .int a0, .int a1, .int a2] => qq_go ww_sh ww_ro cs_X5_step (qq_at 16 kd_X5_step) (some .int) (fun _ => false) P qq_no 14 0 (lv_args 0 [.ref 3, .int a0, .int a1, .int a2]) [] w
  | _ => False
theorem bd_X5_step : ∀ As w P K, qq_Sat ww_sh ww_ro cs_X5_step (qq_at 16 kd_X5_step) (some .int) P K → T_X5_step As w P → K 0 (lv_args 0 As) [] w := by
  intro As w P K S h
  unfold T_X5_step at h
  split at h
  · exact qq_go_all S h
  · exact h.elim
theorem ha_X5_step : ∀ As w P, T_X5_step As w P → qq_wd As ≤ 4 := by
  intro As w P h
  unfold T_X5_step at h
  split at h
  · exact Nat.le_of_ble_eq_true rfl
  · exact h.elim
theorem hv_X5_step : ∀ As w P, T_X5_step As w P → ∃ (k : Nat) (r : List Value) (fs : List Nat), As = .ref k :: r ∧ ww_sh[k]? = some (.inr (5, fs)) := by
  intro As w P h
  unfold T_X5_step at h
  split at h
  · exact ⟨_, _, _, rfl, rfl⟩
  · exact h.elim
set_option maxRecDepth 100000 in
theorem M_X5_step (l : Launch) : qq_M l ww_T ww_N vwCl ww_sh ww_ro ww_zs yX5_step cX5_step 4 (some .int) (ww_rm 0) T_X5_step := by
  refine qq_mk (host := RX7) (is := ki_X5_step) (cs := cs_X5_step) (by decide) ww_k1 wl_X5 ww_so ww_so2 kc_X5_step kv_X5_step kg_X5_step ?_ ha_X5_step bd_X5_step
  intro k i q hi hq
  simp [cs_X5_step] at hq
abbrev cs_X5_reached : List (Nat × qq_t) := []
def T_X5_reached : qq_t := fun As w P => match As with
  | [.ref 3, .int a0, .int a1] => qq_go ww_sh ww_ro cs_X5_reached (qq_at 12 kd_X5_reached) (some .int) (fun _ => false) P qq_no 10 0 (lv_args 0 [.ref 3, .int a0, .int a1]) [] w
  | _ => False
theorem bd_X5_reached : ∀ As w P K, qq_Sat ww_sh ww_ro cs_X5_reached (qq_at 12 kd_X5_reached) (some .int) P K → T_X5_reached As w P → K 0 (lv_args 0 As) [] w := by
  intro As w P K S h
  unfold T_X5_reached at h
  split at h
  · exact qq_go_all S h
  · exact h.elim
theorem ha_X5_reached : ∀ As w P, T_X5_reached As w P → qq_wd As ≤ 3 := by
  intro As w P h
  unfold T_X5_reached at h
  split at h
  · exact Nat.le_of_ble_eq_true rfl
  · exact h.elim
theorem hv_X5_reached : ∀ As w P, T_X5_reached As w P → ∃ (k : Nat) (r : List Value) (fs : List Nat), As = .ref k :: r ∧ ww_sh[k]? = some (.inr (5, fs)) := by
  intro As w P h
  unfold T_X5_reached at h
  split at h
  · exact ⟨_, _, _, rfl, rfl⟩
  · exact h.elim
set_option maxRecDepth 100000 in
theorem M_X5_reached (l : Launch) : qq_M l ww_T ww_N vwCl ww_sh ww_ro ww_zs yX5_reached cX5_reached 3 (some .int) (ww_rm 0) T_X5_reached := by
  refine qq_mk (host := RX7) (is := ki_X5_reached) (cs := cs_X5_reached) (by decide) ww_k1 wl_X5 ww_so ww_so2 kc_X5_reached kv_X5_reached kg_X5_reached ?_ ha_X5_reached bd_X5_reached
  intro k i q hi hq
  simp [cs_X5_reached] at hq
abbrev cs_X6_move : List (Nat × qq_t) := []
def T_X6_move : qq_t := fun As w P => match As with
  | [.ref 5, .int a0, .int a1] => qq_go ww_sh ww_ro cs_X6_move (qq_at 11 kd_X6_move) none (fun _ => false) P qq_no 8 0 (lv_args 0 [.ref 5, .int a0, .int a1]) [] w
  | _ => False
theorem bd_X6_move : ∀ As w P K, qq_Sat ww_sh ww_ro cs_X6_move (qq_at 11 kd_X6_move) none P K → T_X6_move As w P → K 0 (lv_args 0 As) [] w := by
  intro As w P K S h
  unfold T_X6_move at h
  split at h
  · exact qq_go_all S h
  · exact h.elim
theorem ha_X6_move : ∀ As w P, T_X6_move As w P → qq_wd As ≤ 3 := by
  intro As w P h
  unfold T_X6_move at h
  split at h
  · exact Nat.le_of_ble_eq_true rfl
  · exact h.elim
theorem hv_X6_move : ∀ As w P, T_X6_move As w P → ∃ (k : Nat) (r : List Value) (fs : List Nat), As = .ref k :: r ∧ ww_sh[k]? = some (.inr (6, fs)) := by
  intro As w P h
  unfold T_X6_move at h
  split at h
  · exact ⟨_, _, _, rfl, rfl⟩
  · exact h.elim
set_option maxRecDepth 100000 in
theorem M_X6_move (l : Launch) : qq_M l ww_T ww_N vwCl ww_sh ww_ro ww_zs yX6_move cX6_move 3 none (ww_rm 0) T_X6_move := by
  refine qq_mk (host := RX7) (is := ki_X6_move) (cs := cs_X6_move) (by decide) ww_k1 wl_X6 ww_so ww_so2 kc_X6_move kv_X6_move kg_X6_move ?_ ha_X6_move bd_X6_move
  intro k i q hi hq
  simp [cs_X6_move] at hq
abbrev cs_X6_goBackToLaidCall : List (Nat × qq_t) := [(3, T_X6_move)]
def T_X6_goBackToLaidCall : qq_t := fun As w P => match As with
  | [.ref 5] => qq_go ww_sh ww_ro cs_X6_goBackToLaidCall (qq_at 47 kd_X6_goBackToLaidCall) (some .int) (fun _ => false) P qq_no 28 0 (lv_args 0 [.ref 5]) [] w
  | _ => False
theorem bd_X6_goBackToLaidCall : ∀ As w P K, qq_Sat ww_sh ww_ro cs_X6_goBackToLaidCall (qq_at 47 kd_X6_goBackToLaidCall) (some .int) P K → T_X6_goBackToLaidCall As w P → K 0 (lv_args 0 As) [] w := by
  intro As w P K S h
  unfold T_X6_goBackToLaidCall at h
  split at h
  · exact qq_go_all S h
  · exact h.elim
theorem ha_X6_goBackToLaidCall : ∀ As w P, T_X6_goBackToLaidCall As w P → qq_wd As ≤ 1 := by
  intro As w P h
  unfold T_X6_goBackToLaidCall at h
  split at h
  · exact Nat.le_of_ble_eq_true rfl
  · exact h.elim
theorem hv_X6_goBackToLaidCall : ∀ As w P, T_X6_goBackToLaidCall As w P → ∃ (k : Nat) (r : List Value) (fs : List Nat), As = .ref k :: r ∧ ww_sh[k]? = some (.inr (6, fs)) := by
  intro As w P h
  unfold T_X6_goBackToLaidCall at h
  split at h
  · exact ⟨_, _, _, rfl, rfl⟩
  · exact h.elim
set_option maxRecDepth 100000 in
theorem M_X6_goBackToLaidCall (l : Launch) : qq_M l ww_T ww_N vwCl ww_sh ww_ro ww_zs yX6_goBackToLaidCall cX6_goBackToLaidCall 1 (some .int) (ww_rm 1) T_X6_goBackToLaidCall := by
  refine qq_mk (host := RX7) (is := ki_X6_goBackToLaidCall) (cs := cs_X6_goBackToLaidCall) (by decide) ww_k1 wl_X6 ww_so ww_so2 kc_X6_goBackToLaidCall kv_X6_goBackToLaidCall kg_X6_goBackToLaidCall ?_ ha_X6_goBackToLaidCall bd_X6_goBackToLaidCall
  intro k i q hi hq
  match k, hi, hq with
  | 0, hi, hq => cases hi; cases hq; exact fun p e s m args below meth c D tys tC ad Q pc X hdg => qq_cV (ci := 6) X ww_gd (M_X6_move l) kf_X6_move.1 (Or.inl (ww_a4 (i := 61) (w := Cond.methodLink RX6 75 yX6_move) rfl rfl)) kf_X6_move.2.1 kf_X6_move.2.2.1 kf_X6_move.2.2.2 ⟨by decide, by decide, by decide +kernel⟩ rfl rfl rfl ⟨by decide, by decide⟩ ⟨Nat.le_refl _, Nat.le_refl _⟩ hv_X6_move hdg
  | n + 1, hi, hq => simp [cs_X6_goBackToLaidCall] at hq
abbrev cs_X7_solved : List (Nat × qq_t) := [(1, T_X5_isDone)]
def T_X7_solved : qq_t := fun As w P => match As with
  | [.ref 0] => qq_go ww_sh ww_ro cs_X7_solved (qq_at 16 kd_X7_solved) (some .int) (fun _ => false) P qq_no 9 0 (lv_args 0 [.ref 0]) [] w
  | _ => False
theorem bd_X7_solved : ∀ As w P K, qq_Sat ww_sh ww_ro cs_X7_solved (qq_at 16 kd_X7_solved) (some .int) P K → T_X7_solved As w P → K 0 (lv_args 0 As) [] w := by
  intro As w P K S h
  unfold T_X7_solved at h
  split at h
  · exact qq_go_all S h
  · exact h.elim
theorem ha_X7_solved : ∀ As w P, T_X7_solved As w P → qq_wd As ≤ 1 := by
  intro As w P h
  unfold T_X7_solved at h
  split at h
  · exact Nat.le_of_ble_eq_true rfl
  · exact h.elim
theorem hv_X7_solved : ∀ As w P, T_X7_solved As w P → ∃ (k : Nat) (r : List Value) (fs : List Nat), As = .ref k :: r ∧ ww_sh[k]? = some (.inr (7, fs)) := by
  intro As w P h
  unfold T_X7_solved at h
  split at h
  · exact ⟨_, _, _, rfl, rfl⟩
  · exact h.elim
set_option maxRecDepth 100000 in
theorem M_X7_solved (l : Launch) : qq_M l ww_T ww_N vwCl ww_sh ww_ro ww_zs yX7_solved cX7_solved 1 (some .int) (ww_rm 1) T_X7_solved := by
  refine qq_mk (host := RX7) (is := ki_X7_solved) (cs := cs_X7_solved) (by decide) ww_k1 wl_X7 ww_so ww_so2 kc_X7_solved kv_X7_solved kg_X7_solved ?_ ha_X7_solved bd_X7_solved
  intro k i q hi hq
  match k, hi, hq with
  | 0, hi, hq => cases hi; cases hq; exact fun p e s m args below meth c D tys tC ad Q pc X hdg => qq_cV (ci := 5) X ww_gd (M_X5_isDone l) kf_X5_isDone.1 (Or.inl (ww_a3 (i := 120) (w := Cond.methodLink RX7 184 yX5_isDone) rfl rfl)) kf_X5_isDone.2.1 kf_X5_isDone.2.2.1 kf_X5_isDone.2.2.2 ⟨by decide, by decide, by decide +kernel⟩ rfl rfl rfl ⟨by decide, by decide⟩ ⟨Nat.le_refl _, Nat.le_refl _⟩ hv_X5_isDone hdg
  | n + 1, hi, hq => simp [cs_X7_solved] at hq
abbrev cs_X7_count : List (Nat × qq_t) := []
def T_X7_count : qq_t := fun As w P => match As with
  | [.ref 0, .int a0] => qq_go ww_sh ww_ro cs_X7_count (qq_at 90 kd_X7_count) (some .int) (fun _ => false) P qq_no 29 0 (lv_args 0 [.ref 0, .int a0]) [] w
  | _ => False
theorem bd_X7_count : ∀ As w P K, qq_Sat ww_sh ww_ro cs_X7_count (qq_at 90 kd_X7_count) (some .int) P K → T_X7_count As w P → K 0 (lv_args 0 As) [] w := by
  intro As w P K S h
  unfold T_X7_count at h
  split at h
  · exact qq_go_all S h
  · exact h.elim
theorem ha_X7_count : ∀ As w P, T_X7_count As w P → qq_wd As ≤ 2 := by
  intro As w P h
  unfold T_X7_count at h
  split at h
  · exact Nat.le_of_ble_eq_true rfl
  · exact h.elim
theorem hv_X7_count : ∀ As w P, T_X7_count As w P → ∃ (k : Nat) (r : List Value) (fs : List Nat), As = .ref k :: r ∧ ww_sh[k]? = some (.inr (7, fs)) := by
  intro As w P h
  unfold T_X7_count at h
  split at h
  · exact ⟨_, _, _, rfl, rfl⟩
  · exact h.elim
set_option maxRecDepth 100000 in
theorem M_X7_count (l : Launch) : qq_M l ww_T ww_N vwCl ww_sh ww_ro ww_zs yX7_count cX7_count 2 (some .int) (ww_rm 0) T_X7_count := by
  refine qq_mk (host := RX7) (is := ki_X7_count) (cs := cs_X7_count) (by decide) ww_k1 wl_X7 ww_so ww_so2 kc_X7_count kv_X7_count kg_X7_count ?_ ha_X7_count bd_X7_count
  intro k i q hi hq
  simp [cs_X7_count] at hq
abbrev cs_X7_finding : List (Nat × qq_t) := []
def T_X7_finding : qq_t := fun As w P => match As with
  | [.ref 0] => qq_go ww_sh ww_ro cs_X7_finding (qq_at 8 kd_X7_finding) (some .int) (fun _ => false) P qq_no 5 0 (lv_args 0 [.ref 0]) [] w
  | _ => False
theorem bd_X7_finding : ∀ As w P K, qq_Sat ww_sh ww_ro cs_X7_finding (qq_at 8 kd_X7_finding) (some .int) P K → T_X7_finding As w P → K 0 (lv_args 0 As) [] w := by
  intro As w P K S h
  unfold T_X7_finding at h
  split at h
  · exact qq_go_all S h
  · exact h.elim
theorem ha_X7_finding : ∀ As w P, T_X7_finding As w P → qq_wd As ≤ 1 := by
  intro As w P h
  unfold T_X7_finding at h
  split at h
  · exact Nat.le_of_ble_eq_true rfl
  · exact h.elim
theorem hv_X7_finding : ∀ As w P, T_X7_finding As w P → ∃ (k : Nat) (r : List Value) (fs : List Nat), As = .ref k :: r ∧ ww_sh[k]? = some (.inr (7, fs)) := by
  intro As w P h
  unfold T_X7_finding at h
  split at h
  · exact ⟨_, _, _, rfl, rfl⟩
  · exact h.elim
set_option maxRecDepth 100000 in
theorem M_X7_finding (l : Launch) : qq_M l ww_T ww_N vwCl ww_sh ww_ro ww_zs yX7_finding cX7_finding 1 (some .int) (ww_rm 0) T_X7_finding := by
  refine qq_mk (host := RX7) (is := ki_X7_finding) (cs := cs_X7_finding) (by decide) ww_k1 wl_X7 ww_so ww_so2 kc_X7_finding kv_X7_finding kg_X7_finding ?_ ha_X7_finding bd_X7_finding
  intro k i q hi hq
  simp [cs_X7_finding] at hq
abbrev cs_X7_findings : List (Nat × qq_t) := []
def T_X7_findings : qq_t := fun As w P => match As with
  | [.ref 0, .int a0] => qq_go ww_sh ww_ro cs_X7_findings (qq_at 24 kd_X7_findings) (some .int) (fun _ => false) P qq_no 15 0 (lv_args 0 [.ref 0, .int a0]) [] w
  | _ => False
theorem bd_X7_findings : ∀ As w P K, qq_Sat ww_sh ww_ro cs_X7_findings (qq_at 24 kd_X7_findings) (some .int) P K → T_X7_findings As w P → K 0 (lv_args 0 As) [] w := by
  intro As w P K S h
  unfold T_X7_findings at h
  split at h
  · exact qq_go_all S h
  · exact h.elim
theorem ha_X7_findings : ∀ As w P, T_X7_findings As w P → qq_wd As ≤ 2 := by
  intro As w P h
  unfold T_X7_findings at h
  split at h
  · exact Nat.le_of_ble_eq_true rfl
  · exact h.elim
theorem hv_X7_findings : ∀ As w P, T_X7_findings As w P → ∃ (k : Nat) (r : List Value) (fs : List Nat), As = .ref k :: r ∧ ww_sh[k]? = some (.inr (7, fs)) := by
  intro As w P h
  unfold T_X7_findings at h
  split at h
  · exact ⟨_, _, _, rfl, rfl⟩
  · exact h.elim
set_option maxRecDepth 100000 in
theorem M_X7_findings (l : Launch) : qq_M l ww_T ww_N vwCl ww_sh ww_ro ww_zs yX7_findings cX7_findings 2 (some .int) (ww_rm 0) T_X7_findings := by
  refine qq_mk (host := RX7) (is := ki_X7_findings) (cs := cs_X7_findings) (by decide) ww_k1 wl_X7 ww_so ww_so2 kc_X7_findings kv_X7_findings kg_X7_findings ?_ ha_X7_findings bd_X7_findings
  intro k i q hi hq
  simp [cs_X7_findings] at hq
abbrev cs_X7_isWithin : List (Nat × qq_t) := []
def T_X7_isWithin : qq_t := fun As w P => match As with
  | [.int a0, .int a1] => qq_go ww_sh ww_ro cs_X7_isWithin (qq_at 15 kd_X7_isWithin) (some .boolean) (fun _ => false) P qq_no 10 0 (lv_args 0 [.int a0, .int a1]) [] w
  | _ => False
theorem bd_X7_isWithin : ∀ As w P K, qq_Sat ww_sh ww_ro cs_X7_isWithin (qq_at 15 kd_X7_isWithin) (some .boolean) P K → T_X7_isWithin As w P → K 0 (lv_args 0 As) [] w := by
  intro As w P K S h
  unfold T_X7_isWithin at h
  split at h
  · exact qq_go_all S h
  · exact h.elim
theorem ha_X7_isWithin : ∀ As w P, T_X7_isWithin As w P → qq_wd As ≤ 2 := by
  intro As w P h
  unfold T_X7_isWithin at h
  split at h
  · exact Nat.le_of_ble_eq_true rfl
  · exact h.elim
set_option maxRecDepth 100000 in
theorem M_X7_isWithin (l : Launch) : qq_M l ww_T ww_N vwCl ww_sh ww_ro ww_zs yX7_isWithin cX7_isWithin 2 (some .boolean) (ww_rm 0) T_X7_isWithin := by
  refine qq_mk (host := RX7) (is := ki_X7_isWithin) (cs := cs_X7_isWithin) (by decide) ww_k1 wl_X7 ww_so ww_so2 kc_X7_isWithin kv_X7_isWithin kg_X7_isWithin ?_ ha_X7_isWithin bd_X7_isWithin
  intro k i q hi hq
  simp [cs_X7_isWithin] at hq
abbrev cs_X7_has : List (Nat × qq_t) := []
def T_X7_has : qq_t := fun As w P => match As with
  | [.int a0, .int a1] => qq_go ww_sh ww_ro cs_X7_has (qq_at 14 kd_X7_has) (some .boolean) (fun _ => false) P qq_no 11 0 (lv_args 0 [.int a0, .int a1]) [] w
  | _ => False
theorem bd_X7_has : ∀ As w P K, qq_Sat ww_sh ww_ro cs_X7_has (qq_at 14 kd_X7_has) (some .boolean) P K → T_X7_has As w P → K 0 (lv_args 0 As) [] w := by
  intro As w P K S h
  unfold T_X7_has at h
  split at h
  · exact qq_go_all S h
  · exact h.elim
theorem ha_X7_has : ∀ As w P, T_X7_has As w P → qq_wd As ≤ 2 := by
  intro As w P h
  unfold T_X7_has at h
  split at h
  · exact Nat.le_of_ble_eq_true rfl
  · exact h.elim
set_option maxRecDepth 100000 in
theorem M_X7_has (l : Launch) : qq_M l ww_T ww_N vwCl ww_sh ww_ro ww_zs yX7_has cX7_has 2 (some .boolean) (ww_rm 0) T_X7_has := by
  refine qq_mk (host := RX7) (is := ki_X7_has) (cs := cs_X7_has) (by decide) ww_k1 wl_X7 ww_so ww_so2 kc_X7_has kv_X7_has kg_X7_has ?_ ha_X7_has bd_X7_has
  intro k i q hi hq
  simp [cs_X7_has] at hq
abbrev cs_X7_endSolving : List (Nat × qq_t) := [(1, T_X5_end), (1, T_X2_end)]
def T_X7_endSolving : qq_t := fun As w P => match As with
  | [.ref 0] => qq_go ww_sh ww_ro cs_X7_endSolving (qq_at 15 kd_X7_endSolving) none (fun _ => false) P qq_no 8 0 (lv_args 0 [.ref 0]) [] w
  | _ => False
theorem bd_X7_endSolving : ∀ As w P K, qq_Sat ww_sh ww_ro cs_X7_endSolving (qq_at 15 kd_X7_endSolving) none P K → T_X7_endSolving As w P → K 0 (lv_args 0 As) [] w := by
  intro As w P K S h
  unfold T_X7_endSolving at h
  split at h
  · exact qq_go_all S h
  · exact h.elim
theorem ha_X7_endSolving : ∀ As w P, T_X7_endSolving As w P → qq_wd As ≤ 1 := by
  intro As w P h
  unfold T_X7_endSolving at h
  split at h
  · exact Nat.le_of_ble_eq_true rfl
  · exact h.elim
theorem hv_X7_endSolving : ∀ As w P, T_X7_endSolving As w P → ∃ (k : Nat) (r : List Value) (fs : List Nat), As = .ref k :: r ∧ ww_sh[k]? = some (.inr (7, fs)) := by
  intro As w P h
  unfold T_X7_endSolving at h
  split at h
  · exact ⟨_, _, _, rfl, rfl⟩
  · exact h.elim
set_option maxRecDepth 100000 in
theorem M_X7_endSolving (l : Launch) : qq_M l ww_T ww_N vwCl ww_sh ww_ro ww_zs yX7_endSolving cX7_endSolving 1 none (ww_rm 1) T_X7_endSolving := by
  refine qq_mk (host := RX7) (is := ki_X7_endSolving) (cs := cs_X7_endSolving) (by decide) ww_k1 wl_X7 ww_so ww_so2 kc_X7_endSolving kv_X7_endSolving kg_X7_endSolving ?_ ha_X7_endSolving bd_X7_endSolving
  intro k i q hi hq
  match k, hi, hq with
  | 0, hi, hq => cases hi; cases hq; exact fun p e s m args below meth c D tys tC ad Q pc X hdg => qq_cV (ci := 5) X ww_gd (M_X5_end l) kf_X5_end.1 (Or.inl (ww_a2 (i := 64) (w := Cond.methodLink RX7 277 yX5_end) rfl rfl)) kf_X5_end.2.1 kf_X5_end.2.2.1 kf_X5_end.2.2.2 ⟨by decide, by decide, by decide +kernel⟩ rfl rfl rfl ⟨by decide, by decide⟩ ⟨Nat.le_refl _, Nat.le_refl _⟩ hv_X5_end hdg
  | 1, hi, hq => cases hi; cases hq; exact fun p e s m args below meth c D tys tC ad Q pc X hdg => qq_cV (ci := 2) X ww_gd (M_X2_end l) kf_X2_end.1 (Or.inl (ww_a2 (i := 68) (w := Cond.methodLink RX7 280 yX2_end) rfl rfl)) kf_X2_end.2.1 kf_X2_end.2.2.1 kf_X2_end.2.2.2 ⟨by decide, by decide, by decide +kernel⟩ rfl rfl rfl ⟨by decide, by decide⟩ ⟨Nat.le_refl _, Nat.le_refl _⟩ hv_X2_end hdg
  | n + 2, hi, hq => simp [cs_X7_endSolving] at hq
abbrev cs_X8_meets : List (Nat × qq_t) := []
def T_X8_meets : qq_t := fun As w P => match As with
  | [.ref 8, .int a0] => qq_go ww_sh ww_ro cs_X8_meets (qq_at 18 kd_X8_meets) (some .int) (fun _ => false) P qq_no 14 0 (lv_args 0 [.ref 8, .int a0]) [] w
  | _ => False
theorem bd_X8_meets : ∀ As w P K, qq_Sat ww_sh ww_ro cs_X8_meets (qq_at 18 kd_X8_meets) (some .int) P K → T_X8_meets As w P → K 0 (lv_args 0 As) [] w := by
  intro As w P K S h
  unfold T_X8_meets at h
  split at h
  · exact qq_go_all S h
  · exact h.elim
theorem ha_X8_meets : ∀ As w P, T_X8_meets As w P → qq_wd As ≤ 2 := by
  intro As w P h
  unfold T_X8_meets at h
  split at h
  · exact Nat.le_of_ble_eq_true rfl
  · exact h.elim
theorem hv_X8_meets : ∀ As w P, T_X8_meets As w P → ∃ (k : Nat) (r : List Value) (fs : List Nat), As = .ref k :: r ∧ ww_sh[k]? = some (.inr (8, fs)) := by
  intro As w P h
  unfold T_X8_meets at h
  split at h
  · exact ⟨_, _, _, rfl, rfl⟩
  · exact h.elim
set_option maxRecDepth 100000 in
theorem M_X8_meets (l : Launch) : qq_M l ww_T ww_N vwCl ww_sh ww_ro ww_zs yX8_meets cX8_meets 2 (some .int) (ww_rm 0) T_X8_meets := by
  refine qq_mk (host := RX7) (is := ki_X8_meets) (cs := cs_X8_meets) (by decide) ww_k1 wl_X8 ww_so ww_so2 kc_X8_meets kv_X8_meets kg_X8_meets ?_ ha_X8_meets bd_X8_meets
  intro k i q hi hq
  simp [cs_X8_meets] at hq
abbrev cs_X8_isProcedure : List (Nat × qq_t) := [(3, T_X8_in)]
def T_X8_isProcedure : qq_t := fun As w P => match As with
  | [.ref 8, .int a0] => qq_go ww_sh ww_ro cs_X8_isProcedure (qq_at 12 kd_X8_isProcedure) (some .boolean) (fun _ => false) P qq_no 9 0 (lv_args 0 [.ref 8, .int a0]) [] w
  | _ => False
theorem bd_X8_isProcedure : ∀ As w P K, qq_Sat ww_sh ww_ro cs_X8_isProcedure (qq_at 12 kd_X8_isProcedure) (some .boolean) P K → T_X8_isProcedure As w P → K 0 (lv_args 0 As) [] w := by
  intro As w P K S h
  unfold T_X8_isProcedure at h
  split at h
  · exact qq_go_all S h
  · exact h.elim
theorem ha_X8_isProcedure : ∀ As w P, T_X8_isProcedure As w P → qq_wd As ≤ 2 := by
  intro As w P h
  unfold T_X8_isProcedure at h
  split at h
  · exact Nat.le_of_ble_eq_true rfl
  · exact h.elim
theorem hv_X8_isProcedure : ∀ As w P, T_X8_isProcedure As w P → ∃ (k : Nat) (r : List Value) (fs : List Nat), As = .ref k :: r ∧ ww_sh[k]? = some (.inr (8, fs)) := by
  intro As w P h
  unfold T_X8_isProcedure at h
  split at h
  · exact ⟨_, _, _, rfl, rfl⟩
  · exact h.elim
set_option maxRecDepth 100000 in
theorem M_X8_isProcedure (l : Launch) : qq_M l ww_T ww_N vwCl ww_sh ww_ro ww_zs yX8_isProcedure cX8_isProcedure 2 (some .boolean) (ww_rm 1) T_X8_isProcedure := by
  refine qq_mk (host := RX7) (is := ki_X8_isProcedure) (cs := cs_X8_isProcedure) (by decide) ww_k1 wl_X8 ww_so ww_so2 kc_X8_isProcedure kv_X8_isProcedure kg_X8_isProcedure ?_ ha_X8_isProcedure bd_X8_isProcedure
  intro k i q hi hq
  match k, hi, hq with
  | 0, hi, hq => cases hi; cases hq; exact fun p e s m args below meth c D tys tC ad Q pc X hdg => qq_cS X ww_gd (M_X8_in l) kf_X8_in.1 (Or.inl (ww_a5 (i := 76) (w := Cond.methodLink RX8 105 yX8_in) rfl rfl)) kf_X8_in.2.1 kf_X8_in.2.2 ⟨by decide, by decide, by decide +kernel⟩ rfl rfl ⟨by decide, by decide⟩ ⟨Nat.le_refl _, Nat.le_refl _⟩ hdg
  | n + 1, hi, hq => simp [cs_X8_isProcedure] at hq
abbrev cs_X8_isNode : List (Nat × qq_t) := [(3, T_X8_in)]
def T_X8_isNode : qq_t := fun As w P => match As with
  | [.ref 8, .int a0] => qq_go ww_sh ww_ro cs_X8_isNode (qq_at 12 kd_X8_isNode) (some .boolean) (fun _ => false) P qq_no 9 0 (lv_args 0 [.ref 8, .int a0]) [] w
  | _ => False
theorem bd_X8_isNode : ∀ As w P K, qq_Sat ww_sh ww_ro cs_X8_isNode (qq_at 12 kd_X8_isNode) (some .boolean) P K → T_X8_isNode As w P → K 0 (lv_args 0 As) [] w := by
  intro As w P K S h
  unfold T_X8_isNode at h
  split at h
  · exact qq_go_all S h
  · exact h.elim
theorem ha_X8_isNode : ∀ As w P, T_X8_isNode As w P → qq_wd As ≤ 2 := by
  intro As w P h
  unfold T_X8_isNode at h
  split at h
  · exact Nat.le_of_ble_eq_true rfl
  · exact h.elim
theorem hv_X8_isNode : ∀ As w P, T_X8_isNode As w P → ∃ (k : Nat) (r : List Value) (fs : List Nat), As = .ref k :: r ∧ ww_sh[k]? = some (.inr (8, fs)) := by
  intro As w P h
  unfold T_X8_isNode at h
  split at h
  · exact ⟨_, _, _, rfl, rfl⟩
  · exact h.elim
set_option maxRecDepth 100000 in
theorem M_X8_isNode (l : Launch) : qq_M l ww_T ww_N vwCl ww_sh ww_ro ww_zs yX8_isNode cX8_isNode 2 (some .boolean) (ww_rm 1) T_X8_isNode := by
  refine qq_mk (host := RX7) (is := ki_X8_isNode) (cs := cs_X8_isNode) (by decide) ww_k1 wl_X8 ww_so ww_so2 kc_X8_isNode kv_X8_isNode kg_X8_isNode ?_ ha_X8_isNode bd_X8_isNode
  intro k i q hi hq
  match k, hi, hq with
  | 0, hi, hq => cases hi; cases hq; exact fun p e s m args below meth c D tys tC ad Q pc X hdg => qq_cS X ww_gd (M_X8_in l) kf_X8_in.1 (Or.inl (ww_a5 (i := 76) (w := Cond.methodLink RX8 105 yX8_in) rfl rfl)) kf_X8_in.2.1 kf_X8_in.2.2 ⟨by decide, by decide, by decide +kernel⟩ rfl rfl ⟨by decide, by decide⟩ ⟨Nat.le_refl _, Nat.le_refl _⟩ hdg
  | n + 1, hi, hq => simp [cs_X8_isNode] at hq
abbrev cs_X8_isVariable : List (Nat × qq_t) := [(3, T_X8_in)]
def T_X8_isVariable : qq_t := fun As w P => match As with
  | [.ref 8, .int a0, .int a1] => qq_go ww_sh ww_ro cs_X8_isVariable (qq_at 14 kd_X8_isVariable) (some .boolean) (fun _ => false) P qq_no 11 0 (lv_args 0 [.ref 8, .int a0, .int a1]) [] w
  | _ => False
theorem bd_X8_isVariable : ∀ As w P K, qq_Sat ww_sh ww_ro cs_X8_isVariable (qq_at 14 kd_X8_isVariable) (some .boolean) P K → T_X8_isVariable As w P → K 0 (lv_args 0 As) [] w := by
  intro As w P K S h
  unfold T_X8_isVariable at h
  split at h
  · exact qq_go_all S h
  · exact h.elim
theorem ha_X8_isVariable : ∀ As w P, T_X8_isVariable As w P → qq_wd As ≤ 3 := by
  intro As w P h
  unfold T_X8_isVariable at h
  split at h
  · exact Nat.le_of_ble_eq_true rfl
  · exact h.elim
theorem hv_X8_isVariable : ∀ As w P, T_X8_isVariable As w P → ∃ (k : Nat) (r : List Value) (fs : List Nat), As = .ref k :: r ∧ ww_sh[k]? = some (.inr (8, fs)) := by
  intro As w P h
  unfold T_X8_isVariable at h
  split at h
  · exact ⟨_, _, _, rfl, rfl⟩
  · exact h.elim
set_option maxRecDepth 100000 in
theorem M_X8_isVariable (l : Launch) : qq_M l ww_T ww_N vwCl ww_sh ww_ro ww_zs yX8_isVariable cX8_isVariable 3 (some .boolean) (ww_rm 1) T_X8_isVariable := by
  refine qq_mk (host := RX7) (is := ki_X8_isVariable) (cs := cs_X8_isVariable) (by decide) ww_k1 wl_X8 ww_so ww_so2 kc_X8_isVariable kv_X8_isVariable kg_X8_isVariable ?_ ha_X8_isVariable bd_X8_isVariable
  intro k i q hi hq
  match k, hi, hq with
  | 0, hi, hq => cases hi; cases hq; exact fun p e s m args below meth c D tys tC ad Q pc X hdg => qq_cS X ww_gd (M_X8_in l) kf_X8_in.1 (Or.inl (ww_a5 (i := 76) (w := Cond.methodLink RX8 105 yX8_in) rfl rfl)) kf_X8_in.2.1 kf_X8_in.2.2 ⟨by decide, by decide, by decide +kernel⟩ rfl rfl ⟨by decide, by decide⟩ ⟨Nat.le_refl _, Nat.le_refl _⟩ hdg
  | n + 1, hi, hq => simp [cs_X8_isVariable] at hq
abbrev cs_X8_anew : List (Nat × qq_t) := []
def T_X8_anew : qq_t := fun As w P => match As with
  | [.ref 8] => qq_go ww_sh ww_ro cs_X8_anew (qq_at 6 kd_X8_anew) none (fun _ => false) P qq_no 5 0 (lv_args 0 [.ref 8]) [] w
  | _ => False
theorem bd_X8_anew : ∀ As w P K, qq_Sat ww_sh ww_ro cs_X8_anew (qq_at 6 kd_X8_anew) none P K → T_X8_anew As w P → K 0 (lv_args 0 As) [] w := by
  intro As w P K S h
  unfold T_X8_anew at h
  split at h
  · exact qq_go_all S h
  · exact h.elim
theorem ha_X8_anew : ∀ As w P, T_X8_anew As w P → qq_wd As ≤ 1 := by
  intro As w P h
  unfold T_X8_anew at h
  split at h
  · exact Nat.le_of_ble_eq_true rfl
  · exact h.elim
theorem hv_X8_anew : ∀ As w P, T_X8_anew As w P → ∃ (k : Nat) (r : List Value) (fs : List Nat), As = .ref k :: r ∧ ww_sh[k]? = some (.inr (8, fs)) := by
  intro As w P h
  unfold T_X8_anew at h
  split at h
  · exact ⟨_, _, _, rfl, rfl⟩
  · exact h.elim
set_option maxRecDepth 100000 in
theorem M_X8_anew (l : Launch) : qq_M l ww_T ww_N vwCl ww_sh ww_ro ww_zs yX8_anew cX8_anew 1 none (ww_rm 0) T_X8_anew := by
  refine qq_mk (host := RX7) (is := ki_X8_anew) (cs := cs_X8_anew) (by decide) ww_k1 wl_X8 ww_so ww_so2 kc_X8_anew kv_X8_anew kg_X8_anew ?_ ha_X8_anew bd_X8_anew
  intro k i q hi hq
  simp [cs_X8_anew] at hq
abbrev cs_X8_adds : List (Nat × qq_t) := [(1, T_X8_anew)]
def T_X8_adds : qq_t := fun As w P => match As with
  | [.ref 8, .int a0, .int a1] => qq_go ww_sh ww_ro cs_X8_adds (qq_at 118 kd_X8_adds) (some .int) (fun _ => false) P qq_no 68 0 (lv_args 0 [.ref 8, .int a0, .int a1]) [] w
  | _ => False
theorem bd_X8_adds : ∀ As w P K, qq_Sat ww_sh ww_ro cs_X8_adds (qq_at 118 kd_X8_adds) (some .int) P K → T_X8_adds As w P → K 0 (lv_args 0 As) [] w := by
  intro As w P K S h
  unfold T_X8_adds at h
  split at h
  · exact qq_go_all S h
  · exact h.elim
theorem ha_X8_adds : ∀ As w P, T_X8_adds As w P → qq_wd As ≤ 3 := by
  intro As w P h
  unfold T_X8_adds at h
  split at h
  · exact Nat.le_of_ble_eq_true rfl
  · exact h.elim
theorem hv_X8_adds : ∀ As w P, T_X8_adds As w P → ∃ (k : Nat) (r : List Value) (fs : List Nat), As = .ref k :: r ∧ ww_sh[k]? = some (.inr (8, fs)) := by
  intro As w P h
  unfold T_X8_adds at h
  split at h
  · exact ⟨_, _, _, rfl, rfl⟩
  · exact h.elim
set_option maxRecDepth 100000 in
theorem M_X8_adds (l : Launch) : qq_M l ww_T ww_N vwCl ww_sh ww_ro ww_zs yX8_adds cX8_adds 3 (some .int) (ww_rm 1) T_X8_adds := by
  refine qq_mk (host := RX7) (is := ki_X8_adds) (cs := cs_X8_adds) (by decide) ww_k1 wl_X8 ww_so ww_so2 kc_X8_adds kv_X8_adds kg_X8_adds ?_ ha_X8_adds bd_X8_adds
  intro k i q hi hq
  match k, hi, hq with
  | 0, hi, hq => cases hi; cases hq; exact fun p e s m args below meth c D tys tC ad Q pc X hdg => qq_cV (ci := 8) X ww_gd (M_X8_anew l) kf_X8_anew.1 (Or.inl (ww_a5 (i := 83) (w := Cond.methodLink RX8 116 yX8_anew) rfl rfl)) kf_X8_anew.2.1 kf_X8_anew.2.2.1 kf_X8_anew.2.2.2 ⟨by decide, by decide, by decide +kernel⟩ rfl rfl rfl ⟨by decide, by decide⟩ ⟨Nat.le_refl _, Nat.le_refl _⟩ hv_X8_anew hdg
  | n + 1, hi, hq => simp [cs_X8_adds] at hq
abbrev cs_X8_procedure : List (Nat × qq_t) := [(3, T_X8_in), (3, T_X8_adds)]
def T_X8_procedure : qq_t := fun As w P => match As with
  | [.ref 8, .int a0, .int a1] => qq_go ww_sh ww_ro cs_X8_procedure (qq_at 133 kd_X8_procedure) (some .int) (fun _ => false) P qq_no 77 0 (lv_args 0 [.ref 8, .int a0, .int a1]) [] w
  | _ => False
theorem bd_X8_procedure : ∀ As w P K, qq_Sat ww_sh ww_ro cs_X8_procedure (qq_at 133 kd_X8_procedure) (some .int) P K → T_X8_procedure As w P → K 0 (lv_args 0 As) [] w := by
  intro As w P K S h
  unfold T_X8_procedure at h
  split at h
  · exact qq_go_all S h
  · exact h.elim
theorem ha_X8_procedure : ∀ As w P, T_X8_procedure As w P → qq_wd As ≤ 3 := by
  intro As w P h
  unfold T_X8_procedure at h
  split at h
  · exact Nat.le_of_ble_eq_true rfl
  · exact h.elim
theorem hv_X8_procedure : ∀ As w P, T_X8_procedure As w P → ∃ (k : Nat) (r : List Value) (fs : List Nat), As = .ref k :: r ∧ ww_sh[k]? = some (.inr (8, fs)) := by
  intro As w P h
  unfold T_X8_procedure at h
  split at h
  · exact ⟨_, _, _, rfl, rfl⟩
  · exact h.elim
set_option maxRecDepth 100000 in
theorem M_X8_procedure (l : Launch) : qq_M l ww_T ww_N vwCl ww_sh ww_ro ww_zs yX8_procedure cX8_procedure 3 (some .int) (ww_rm 2) T_X8_procedure := by
  refine qq_mk (host := RX7) (is := ki_X8_procedure) (cs := cs_X8_procedure) (by decide) ww_k1 wl_X8 ww_so ww_so2 kc_X8_procedure kv_X8_procedure kg_X8_procedure ?_ ha_X8_procedure bd_X8_procedure
  intro k i q hi hq
  match k, hi, hq with
  | 0, hi, hq => cases hi; cases hq; exact fun p e s m args below meth c D tys tC ad Q pc X hdg => qq_cS X ww_gd (M_X8_in l) kf_X8_in.1 (Or.inl (ww_a5 (i := 76) (w := Cond.methodLink RX8 105 yX8_in) rfl rfl)) kf_X8_in.2.1 kf_X8_in.2.2 ⟨by decide, by decide, by decide +kernel⟩ rfl rfl ⟨by decide, by decide⟩ ⟨Nat.le_refl _, Nat.le_refl _⟩ hdg
  | 1, hi, hq => cases hi; cases hq; exact fun p e s m args below meth c D tys tC ad Q pc X hdg => qq_cV (ci := 8) X ww_gd (M_X8_adds l) kf_X8_adds.1 (Or.inl (ww_a5 (i := 79) (w := Cond.methodLink RX8 119 yX8_adds) rfl rfl)) kf_X8_adds.2.1 kf_X8_adds.2.2.1 kf_X8_adds.2.2.2 ⟨by decide, by decide, by decide +kernel⟩ rfl rfl rfl ⟨by decide, by decide⟩ ⟨Nat.le_refl _, Nat.le_refl _⟩ hv_X8_adds hdg
  | n + 2, hi, hq => simp [cs_X8_procedure] at hq
abbrev cs_X8_ends : List (Nat × qq_t) := [(2, T_X8_isProcedure)]
def T_X8_ends : qq_t := fun As w P => match As with
  | [.ref 8, .int a0, .int a1] => qq_go ww_sh ww_ro cs_X8_ends (qq_at 32 kd_X8_ends) (some .int) (fun _ => false) P qq_no 19 0 (lv_args 0 [.ref 8, .int a0, .int a1]) [] w
  | _ => False
theorem bd_X8_ends : ∀ As w P K, qq_Sat ww_sh ww_ro cs_X8_ends (qq_at 32 kd_X8_ends) (some .int) P K → T_X8_ends As w P → K 0 (lv_args 0 As) [] w := by
  intro As w P K S h
  unfold T_X8_ends at h
  split at h
  · exact qq_go_all S h
  · exact h.elim
theorem ha_X8_ends : ∀ As w P, T_X8_ends As w P → qq_wd As ≤ 3 := by
  intro As w P h
  unfold T_X8_ends at h
  split at h
  · exact Nat.le_of_ble_eq_true rfl
  · exact h.elim
theorem hv_X8_ends : ∀ As w P, T_X8_ends As w P → ∃ (k : Nat) (r : List Value) (fs : List Nat), As = .ref k :: r ∧ ww_sh[k]? = some (.inr (8, fs)) := by
  intro As w P h
  unfold T_X8_ends at h
  split at h
  · exact ⟨_, _, _, rfl, rfl⟩
  · exact h.elim
set_option maxRecDepth 100000 in
theorem M_X8_ends (l : Launch) : qq_M l ww_T ww_N vwCl ww_sh ww_ro ww_zs yX8_ends cX8_ends 3 (some .int) (ww_rm 2) T_X8_ends := by
  refine qq_mk (host := RX7) (is := ki_X8_ends) (cs := cs_X8_ends) (by decide) ww_k1 wl_X8 ww_so ww_so2 kc_X8_ends kv_X8_ends kg_X8_ends ?_ ha_X8_ends bd_X8_ends
  intro k i q hi hq
  match k, hi, hq with
  | 0, hi, hq => cases hi; cases hq; exact fun p e s m args below meth c D tys tC ad Q pc X hdg => qq_cV (ci := 8) X ww_gd (M_X8_isProcedure l) kf_X8_isProcedure.1 (Or.inl (ww_a5 (i := 91) (w := Cond.methodLink RX8 123 yX8_isProcedure) rfl rfl)) kf_X8_isProcedure.2.1 kf_X8_isProcedure.2.2.1 kf_X8_isProcedure.2.2.2 ⟨by decide, by decide, by decide +kernel⟩ rfl rfl rfl ⟨by decide, by decide⟩ ⟨Nat.le_refl _, Nat.le_refl _⟩ hv_X8_isProcedure hdg
  | n + 1, hi, hq => simp [cs_X8_ends] at hq
abbrev cs_X8_outcome : List (Nat × qq_t) := [(2, T_X8_isProcedure), (3, T_X8_in), (1, T_X8_anew)]
def T_X8_outcome : qq_t := fun As w P => match As with
  | [.ref 8, .int a0, .int a1] => qq_go ww_sh ww_ro cs_X8_outcome (qq_at 52 kd_X8_outcome) (some .int) (fun _ => false) P qq_no 34 0 (lv_args 0 [.ref 8, .int a0, .int a1]) [] w
  | _ => False
theorem bd_X8_outcome : ∀ As w P K, qq_Sat ww_sh ww_ro cs_X8_outcome (qq_at 52 kd_X8_outcome) (some .int) P K → T_X8_outcome As w P → K 0 (lv_args 0 As) [] w := by
  intro As w P K S h
  unfold T_X8_outcome at h
  split at h
  · exact qq_go_all S h
  · exact h.elim
theorem ha_X8_outcome : ∀ As w P, T_X8_outcome As w P → qq_wd As ≤ 4 := by
  intro As w P h
  unfold T_X8_outcome at h
  split at h
  · exact Nat.le_of_ble_eq_true rfl
  · exact h.elim
theorem hv_X8_outcome : ∀ As w P, T_X8_outcome As w P → ∃ (k : Nat) (r : List Value) (fs : List Nat), As = .ref k :: r ∧ ww_sh[k]? = some (.inr (8, fs)) := by
  intro As w P h
  unfold T_X8_outcome at h
  split at h
  · exact ⟨_, _, _, rfl, rfl⟩
  · exact h.elim
set_option maxRecDepth 100000 in
theorem M_X8_outcome (l : Launch) : qq_M l ww_T ww_N vwCl ww_sh ww_ro ww_zs yX8_outcome cX8_outcome 4 (some .int) (ww_rm 2) T_X8_outcome := by
  refine qq_mk (host := RX7) (is := ki_X8_outcome) (cs := cs_X8_outcome) (by decide) ww_k1 wl_X8 ww_so ww_so2 kc_X8_outcome kv_X8_outcome kg_X8_outcome ?_ ha_X8_outcome bd_X8_outcome
  intro k i q hi hq
  match k, hi, hq with
  | 0, hi, hq => cases hi; cases hq; exact fun p e s m args below meth c D tys tC ad Q pc X hdg => qq_cV (ci := 8) X ww_gd (M_X8_isProcedure l) kf_X8_isProcedure.1 (Or.inl (ww_a5 (i := 91) (w := Cond.methodLink RX8 123 yX8_isProcedure) rfl rfl)) kf_X8_isProcedure.2.1 kf_X8_isProcedure.2.2.1 kf_X8_isProcedure.2.2.2 ⟨by decide, by decide, by decide +kernel⟩ rfl rfl rfl ⟨by decide, by decide⟩ ⟨Nat.le_refl _, Nat.le_refl _⟩ hv_X8_isProcedure hdg
  | 1, hi, hq => cases hi; cases hq; exact fun p e s m args below meth c D tys tC ad Q pc X hdg => qq_cS X ww_gd (M_X8_in l) kf_X8_in.1 (Or.inl (ww_a5 (i := 76) (w := Cond.methodLink RX8 105 yX8_in) rfl rfl)) kf_X8_in.2.1 kf_X8_in.2.2 ⟨by decide, by decide, by decide +kernel⟩ rfl rfl ⟨by decide, by decide⟩ ⟨Nat.le_refl _, Nat.le_refl _⟩ hdg
  | 2, hi, hq => cases hi; cases hq; exact fun p e s m args below meth c D tys tC ad Q pc X hdg => qq_cV (ci := 8) X ww_gd (M_X8_anew l) kf_X8_anew.1 (Or.inl (ww_a5 (i := 83) (w := Cond.methodLink RX8 116 yX8_anew) rfl rfl)) kf_X8_anew.2.1 kf_X8_anew.2.2.1 kf_X8_anew.2.2.2 ⟨by decide, by decide, by decide +kernel⟩ rfl rfl rfl ⟨by decide, by decide⟩ ⟨Nat.le_refl _, Nat.le_refl _⟩ hv_X8_anew hdg
  | n + 3, hi, hq => simp [cs_X8_outcome] at hq
abbrev cs_X8_hasX : List (Nat × qq_t) := [(3, T_X8_in)]
def T_X8_hasX : qq_t := fun As w P => match As with
  | [.int a0] => qq_go ww_sh ww_ro cs_X8_hasX (qq_at 8 kd_X8_hasX) (some .boolean) (fun _ => false) P qq_no 6 0 (lv_args 0 [.int a0]) [] w
  | _ => False
theorem bd_X8_hasX : ∀ As w P K, qq_Sat ww_sh ww_ro cs_X8_hasX (qq_at 8 kd_X8_hasX) (some .boolean) P K → T_X8_hasX As w P → K 0 (lv_args 0 As) [] w := by
  intro As w P K S h
  unfold T_X8_hasX at h
  split at h
  · exact qq_go_all S h
  · exact h.elim
theorem ha_X8_hasX : ∀ As w P, T_X8_hasX As w P → qq_wd As ≤ 1 := by
  intro As w P h
  unfold T_X8_hasX at h
  split at h
  · exact Nat.le_of_ble_eq_true rfl
  · exact h.elim
set_option maxRecDepth 100000 in
theorem M_X8_hasX (l : Launch) : qq_M l ww_T ww_N vwCl ww_sh ww_ro ww_zs yX8_hasX cX8_hasX 1 (some .boolean) (ww_rm 1) T_X8_hasX := by
  refine qq_mk (host := RX7) (is := ki_X8_hasX) (cs := cs_X8_hasX) (by decide) ww_k1 wl_X8 ww_so ww_so2 kc_X8_hasX kv_X8_hasX kg_X8_hasX ?_ ha_X8_hasX bd_X8_hasX
  intro k i q hi hq
  match k, hi, hq with
  | 0, hi, hq => cases hi; cases hq; exact fun p e s m args below meth c D tys tC ad Q pc X hdg => qq_cS X ww_gd (M_X8_in l) kf_X8_in.1 (Or.inl (ww_a5 (i := 76) (w := Cond.methodLink RX8 105 yX8_in) rfl rfl)) kf_X8_in.2.1 kf_X8_in.2.2 ⟨by decide, by decide, by decide +kernel⟩ rfl rfl ⟨by decide, by decide⟩ ⟨Nat.le_refl _, Nat.le_refl _⟩ hdg
  | n + 1, hi, hq => simp [cs_X8_hasX] at hq
abbrev cs_X8_node : List (Nat × qq_t) := [(2, T_X8_isProcedure), (3, T_X8_in), (1, T_X8_hasX), (3, T_X8_isVariable), (1, T_X8_hasY), (3, T_X8_adds)]
def T_X8_node : qq_t := fun As w P => match As with
  | [.ref 8, .int a0, .int a1, .int a2, .int a3, .int a4] => qq_go ww_sh ww_ro cs_X8_node (qq_at 153 kd_X8_node) (some .int) (fun _ => false) P qq_no 81 0 (lv_args 0 [.ref 8, .int a0, .int a1, .int a2, .int a3, .int a4]) [] w
  | _ => False
theorem bd_X8_node : ∀ As w P K, qq_Sat ww_sh ww_ro cs_X8_node (qq_at 153 kd_X8_node) (some .int) P K → T_X8_node As w P → K 0 (lv_args 0 As) [] w := by
  intro As w P K S h
  unfold T_X8_node at h
  split at h
  · exact qq_go_all S h
  · exact h.elim
theorem ha_X8_node : ∀ As w P, T_X8_node As w P → qq_wd As ≤ 7 := by
  intro As w P h
  unfold T_X8_node at h
  split at h
  · exact Nat.le_of_ble_eq_true rfl
  · exact h.elim
theorem hv_X8_node : ∀ As w P, T_X8_node As w P → ∃ (k : Nat) (r : List Value) (fs : List Nat), As = .ref k :: r ∧ ww_sh[k]? = some (.inr (8, fs)) := by
  intro As w P h
  unfold T_X8_node at h
  split at h
  · exact ⟨_, _, _, rfl, rfl⟩
  · exact h.elim
set_option maxRecDepth 100000 in
theorem M_X8_node (l : Launch) : qq_M l ww_T ww_N vwCl ww_sh ww_ro ww_zs yX8_node cX8_node 7 (some .int) (ww_rm 2) T_X8_node := by
  refine qq_mk (host := RX7) (is := ki_X8_node) (cs := cs_X8_node) (by decide) ww_k1 wl_X8 ww_so ww_so2 kc_X8_node kv_X8_node kg_X8_node ?_ ha_X8_node bd_X8_node
  intro k i q hi hq
  match k, hi, hq with
  | 0, hi, hq => cases hi; cases hq; exact fun p e s m args below meth c D tys tC ad Q pc X hdg => qq_cV (ci := 8) X ww_gd (M_X8_isProcedure l) kf_X8_isProcedure.1 (Or.inl (ww_a5 (i := 91) (w := Cond.methodLink RX8 123 yX8_isProcedure) rfl rfl)) kf_X8_isProcedure.2.1 kf_X8_isProcedure.2.2.1 kf_X8_isProcedure.2.2.2 ⟨by decide, by decide, by decide +kernel⟩ rfl rfl rfl ⟨by decide, by decide⟩ ⟨Nat.le_refl _, Nat.le_refl _⟩ hv_X8_isProcedure hdg
  | 1, hi, hq => cases hi; cases hq; exact fun p e s m args below meth c D tys tC ad Q pc X hdg => qq_cS X ww_gd (M_X8_in l) kf_X8_in.1 (Or.inl (ww_a5 (i := 76) (w := Cond.methodLink RX8 105 yX8_in) rfl rfl)) kf_X8_in.2.1 kf_X8_in.2.2 ⟨by decide, by decide, by decide +kernel⟩ rfl rfl ⟨by decide, by decide⟩ ⟨Nat.le_refl _, Nat.le_refl _⟩ hdg
  | 2, hi, hq => cases hi; cases hq; exact fun p e s m args below meth c D tys tC ad Q pc X hdg => qq_cS X ww_gd (M_X8_hasX l) kf_X8_hasX.1 (Or.inl (ww_a5 (i := 103) (w := Cond.methodLink RX8 127 yX8_hasX) rfl rfl)) kf_X8_hasX.2.1 kf_X8_hasX.2.2 ⟨by decide, by decide, by decide +kernel⟩ rfl rfl ⟨by decide, by decide⟩ ⟨Nat.le_refl _, Nat.le_refl _⟩ hdg
  | 3, hi, hq => cases hi; cases hq; exact fun p e s m args below meth c D tys tC ad Q pc X hdg => qq_cV (ci := 8) X ww_gd (M_X8_isVariable l) kf_X8_isVariable.1 (Or.inl (ww_a5 (i := 106) (w := Cond.methodLink RX8 130 yX8_isVariable) rfl rfl)) kf_X8_isVariable.2.1 kf_X8_isVariable.2.2.1 kf_X8_isVariable.2.2.2 ⟨by decide, by decide, by decide +kernel⟩ rfl rfl rfl ⟨by decide, by decide⟩ ⟨Nat.le_refl _, Nat.le_refl _⟩ hv_X8_isVariable hdg
  | 4, hi, hq => cases hi; cases hq; exact fun p e s m args below meth c D tys tC ad Q pc X hdg => qq_cS X ww_gd (M_X8_hasY l) kf_X8_hasY.1 (Or.inl (ww_a5 (i := 110) (w := Cond.methodLink RX8 134 yX8_hasY) rfl rfl)) kf_X8_hasY.2.1 kf_X8_hasY.2.2 ⟨by decide, by decide, by decide +kernel⟩ rfl rfl ⟨by decide, by decide⟩ ⟨Nat.le_refl _, Nat.le_refl _⟩ hdg
  | 5, hi, hq => cases hi; cases hq; exact fun p e s m args below meth c D tys tC ad Q pc X hdg => qq_cV (ci := 8) X ww_gd (M_X8_adds l) kf_X8_adds.1 (Or.inl (ww_a5 (i := 79) (w := Cond.methodLink RX8 119 yX8_adds) rfl rfl)) kf_X8_adds.2.1 kf_X8_adds.2.2.1 kf_X8_adds.2.2.2 ⟨by decide, by decide, by decide +kernel⟩ rfl rfl rfl ⟨by decide, by decide⟩ ⟨Nat.le_refl _, Nat.le_refl _⟩ hv_X8_adds hdg
  | n + 6, hi, hq => simp [cs_X8_node] at hq
abbrev cs_X8_argument : List (Nat × qq_t) := [(2, T_X8_isNode), (3, T_X8_isVariable), (2, T_X8_meets), (3, T_X8_in), (1, T_X8_anew)]
def T_X8_argument : qq_t := fun As w P => match As with
  | [.ref 8, .int a0, .int a1, .int a2] => qq_go ww_sh ww_ro cs_X8_argument (qq_at 86 kd_X8_argument) (some .int) (fun _ => false) P qq_no 55 0 (lv_args 0 [.ref 8, .int a0, .int a1, .int a2]) [] w
  | _ => False
theorem bd_X8_argument : ∀ As w P K, qq_Sat ww_sh ww_ro cs_X8_argument (qq_at 86 kd_X8_argument) (some .int) P K → T_X8_argument As w P → K 0 (lv_args 0 As) [] w := by
  intro As w P K S h
  unfold T_X8_argument at h
  split at h
  · exact qq_go_all S h
  · exact h.elim
theorem ha_X8_argument : ∀ As w P, T_X8_argument As w P → qq_wd As ≤ 4 := by
  intro As w P h
  unfold T_X8_argument at h
  split at h
  · exact Nat.le_of_ble_eq_true rfl
  · exact h.elim
theorem hv_X8_argument : ∀ As w P, T_X8_argument As w P → ∃ (k : Nat) (r : List Value) (fs : List Nat), As = .ref k :: r ∧ ww_sh[k]? = some (.inr (8, fs)) := by
  intro As w P h
  unfold T_X8_argument at h
  split at h
  · exact ⟨_, _, _, rfl, rfl⟩
  · exact h.elim
set_option maxRecDepth 100000 in
theorem M_X8_argument (l : Launch) : qq_M l ww_T ww_N vwCl ww_sh ww_ro ww_zs yX8_argument cX8_argument 4 (some .int) (ww_rm 2) T_X8_argument := by
  refine qq_mk (host := RX7) (is := ki_X8_argument) (cs := cs_X8_argument) (by decide) ww_k1 wl_X8 ww_so ww_so2 kc_X8_argument kv_X8_argument kg_X8_argument ?_ ha_X8_argument bd_X8_argument
  intro k i q hi hq
  match k, hi, hq with
  | 0, hi, hq => cases hi; cases hq; exact fun p e s m args below meth c D tys tC ad Q pc X hdg => qq_cV (ci := 8) X ww_gd (M_X8_isNode l) kf_X8_isNode.1 (Or.inl (ww_a5 (i := 125) (w := Cond.methodLink RX8 144 yX8_isNode) rfl rfl)) kf_X8_isNode.2.1 kf_X8_isNode.2.2.1 kf_X8_isNode.2.2.2 ⟨by decide, by decide, by decide +kernel⟩ rfl rfl rfl ⟨by decide, by decide⟩ ⟨Nat.le_refl _, Nat.le_refl _⟩ hv_X8_isNode hdg
  | 1, hi, hq => cases hi; cases hq; exact fun p e s m args below meth c D tys tC ad Q pc X hdg => qq_cV (ci := 8) X ww_gd (M_X8_isVariable l) kf_X8_isVariable.1 (Or.inl (ww_a5 (i := 106) (w := Cond.methodLink RX8 130 yX8_isVariable) rfl rfl)) kf_X8_isVariable.2.1 kf_X8_isVariable.2.2.1 kf_X8_isVariable.2.2.2 ⟨by decide, by decide, by decide +kernel⟩ rfl rfl rfl ⟨by decide, by decide⟩ ⟨Nat.le_refl _, Nat.le_refl _⟩ hv_X8_isVariable hdg
  | 2, hi, hq => cases hi; cases hq; exact fun p e s m args below meth c D tys tC ad Q pc X hdg => qq_cV (ci := 8) X ww_gd (M_X8_meets l) kf_X8_meets.1 (Or.inl (ww_a5 (i := 117) (w := Cond.methodLink RX8 137 yX8_meets) rfl rfl)) kf_X8_meets.2.1 kf_X8_meets.2.2.1 kf_X8_meets.2.2.2 ⟨by decide, by decide, by decide +kernel⟩ rfl rfl rfl ⟨by decide, by decide⟩ ⟨Nat.le_refl _, Nat.le_refl _⟩ hv_X8_meets hdg
  | 3, hi, hq => cases hi; cases hq; exact fun p e s m args below meth c D tys tC ad Q pc X hdg => qq_cS X ww_gd (M_X8_in l) kf_X8_in.1 (Or.inl (ww_a5 (i := 76) (w := Cond.methodLink RX8 105 yX8_in) rfl rfl)) kf_X8_in.2.1 kf_X8_in.2.2 ⟨by decide, by decide, by decide +kernel⟩ rfl rfl ⟨by decide, by decide⟩ ⟨Nat.le_refl _, Nat.le_refl _⟩ hdg
  | 4, hi, hq => cases hi; cases hq; exact fun p e s m args below meth c D tys tC ad Q pc X hdg => qq_cV (ci := 8) X ww_gd (M_X8_anew l) kf_X8_anew.1 (Or.inl (ww_a5 (i := 83) (w := Cond.methodLink RX8 116 yX8_anew) rfl rfl)) kf_X8_anew.2.1 kf_X8_anew.2.2.1 kf_X8_anew.2.2.2 ⟨by decide, by decide, by decide +kernel⟩ rfl rfl rfl ⟨by decide, by decide⟩ ⟨Nat.le_refl _, Nat.le_refl _⟩ hv_X8_anew hdg
  | n + 5, hi, hq => simp [cs_X8_argument] at hq
abbrev cs_X8_isPart : List (Nat × qq_t) := []
def T_X8_isPart : qq_t := fun As w P => match As with
  | [.int a0, .int a1, .int a2] => qq_go ww_sh ww_ro cs_X8_isPart (qq_at 25 kd_X8_isPart) (some .boolean) (fun _ => false) P qq_no 18 0 (lv_args 0 [.int a0, .int a1, .int a2]) [] w
  | _ => False
theorem bd_X8_isPart : ∀ As w P K, qq_Sat ww_sh ww_ro cs_X8_isPart (qq_at 25 kd_X8_isPart) (some .boolean) P K → T_X8_isPart As w P → K 0 (lv_args 0 As) [] w := by
  intro As w P K S h
  unfold T_X8_isPart at h
  split at h
  · exact qq_go_all S h
  · exact h.elim
theorem ha_X8_isPart : ∀ As w P, T_X8_isPart As w P → qq_wd As ≤ 3 := by
  intro As w P h
  unfold T_X8_isPart at h
  split at h
  · exact Nat.le_of_ble_eq_true rfl
  · exact h.elim
set_option maxRecDepth 100000 in
theorem M_X8_isPart (l : Launch) : qq_M l ww_T ww_N vwCl ww_sh ww_ro ww_zs yX8_isPart cX8_isPart 3 (some .boolean) (ww_rm 0) T_X8_isPart := by
  refine qq_mk (host := RX7) (is := ki_X8_isPart) (cs := cs_X8_isPart) (by decide) ww_k1 wl_X8 ww_so ww_so2 kc_X8_isPart kv_X8_isPart kg_X8_isPart ?_ ha_X8_isPart bd_X8_isPart
  intro k i q hi hq
  simp [cs_X8_isPart] at hq
abbrev cs_X8_given : List (Nat × qq_t) := [(2, T_X8_isNode), (2, T_X8_meets), (3, T_X8_in)]
def T_X8_given : qq_t := fun As w P => match As with
  | [.ref 8, .int a0, .int a1] => qq_go ww_sh ww_ro cs_X8_given (qq_at 62 kd_X8_given) (some .int) (fun _ => false) P qq_no 40 0 (lv_args 0 [.ref 8, .int a0, .int a1]) [] w
  | _ => False
theorem bd_X8_given : ∀ As w P K, qq_Sat ww_sh ww_ro cs_X8_given (qq_at 62 kd_X8_given) (some .int) P K → T_X8_given As w P → K 0 (lv_args 0 As) [] w := by
  intro As w P K S h
  unfold T_X8_given at h
  split at h
  · exact qq_go_all S h
  · exact h.elim
theorem ha_X8_given : ∀ As w P, T_X8_given As w P → qq_wd As ≤ 3 := by
  intro As w P h
  unfold T_X8_given at h
  split at h
  · exact Nat.le_of_ble_eq_true rfl
  · exact h.elim
theorem hv_X8_given : ∀ As w P, T_X8_given As w P → ∃ (k : Nat) (r : List Value) (fs : List Nat), As = .ref k :: r ∧ ww_sh[k]? = some (.inr (8, fs)) := by
  intro As w P h
  unfold T_X8_given at h
  split at h
  · exact ⟨_, _, _, rfl, rfl⟩
  · exact h.elim
set_option maxRecDepth 100000 in
theorem M_X8_given (l : Launch) : qq_M l ww_T ww_N vwCl ww_sh ww_ro ww_zs yX8_given cX8_given 3 (some .int) (ww_rm 2) T_X8_given := by
  refine qq_mk (host := RX7) (is := ki_X8_given) (cs := cs_X8_given) (by decide) ww_k1 wl_X8 ww_so ww_so2 kc_X8_given kv_X8_given kg_X8_given ?_ ha_X8_given bd_X8_given
  intro k i q hi hq
  match k, hi, hq with
  | 0, hi, hq => cases hi; cases hq; exact fun p e s m args below meth c D tys tC ad Q pc X hdg => qq_cV (ci := 8) X ww_gd (M_X8_isNode l) kf_X8_isNode.1 (Or.inl (ww_a5 (i := 125) (w := Cond.methodLink RX8 144 yX8_isNode) rfl rfl)) kf_X8_isNode.2.1 kf_X8_isNode.2.2.1 kf_X8_isNode.2.2.2 ⟨by decide, by decide, by decide +kernel⟩ rfl rfl rfl ⟨by decide, by decide⟩ ⟨Nat.le_refl _, Nat.le_refl _⟩ hv_X8_isNode hdg
  | 1, hi, hq => cases hi; cases hq; exact fun p e s m args below meth c D tys tC ad Q pc X hdg => qq_cV (ci := 8) X ww_gd (M_X8_meets l) kf_X8_meets.1 (Or.inl (ww_a5 (i := 117) (w := Cond.methodLink RX8 137 yX8_meets) rfl rfl)) kf_X8_meets.2.1 kf_X8_meets.2.2.1 kf_X8_meets.2.2.2 ⟨by decide, by decide, by decide +kernel⟩ rfl rfl rfl ⟨by decide, by decide⟩ ⟨Nat.le_refl _, Nat.le_refl _⟩ hv_X8_meets hdg
  | 2, hi, hq => cases hi; cases hq; exact fun p e s m args below meth c D tys tC ad Q pc X hdg => qq_cS X ww_gd (M_X8_in l) kf_X8_in.1 (Or.inl (ww_a5 (i := 76) (w := Cond.methodLink RX8 105 yX8_in) rfl rfl)) kf_X8_in.2.1 kf_X8_in.2.2 ⟨by decide, by decide, by decide +kernel⟩ rfl rfl ⟨by decide, by decide⟩ ⟨Nat.le_refl _, Nat.le_refl _⟩ hdg
  | n + 3, hi, hq => simp [cs_X8_given] at hq
abbrev cs_X8_above : List (Nat × qq_t) := []
def T_X8_above : qq_t := fun As w P => match As with
  | [.int a0] => qq_go ww_sh ww_ro cs_X8_above (qq_at 33 kd_X8_above) (some .int) (fun _ => false) P qq_no 19 0 (lv_args 0 [.int a0]) [] w
  | _ => False
theorem bd_X8_above : ∀ As w P K, qq_Sat ww_sh ww_ro cs_X8_above (qq_at 33 kd_X8_above) (some .int) P K → T_X8_above As w P → K 0 (lv_args 0 As) [] w := by
  intro As w P K S h
  unfold T_X8_above at h
  split at h
  · exact qq_go_all S h
  · exact h.elim
theorem ha_X8_above : ∀ As w P, T_X8_above As w P → qq_wd As ≤ 1 := by
  intro As w P h
  unfold T_X8_above at h
  split at h
  · exact Nat.le_of_ble_eq_true rfl
  · exact h.elim
set_option maxRecDepth 100000 in
theorem M_X8_above (l : Launch) : qq_M l ww_T ww_N vwCl ww_sh ww_ro ww_zs yX8_above cX8_above 1 (some .int) (ww_rm 0) T_X8_above := by
  refine qq_mk (host := RX7) (is := ki_X8_above) (cs := cs_X8_above) (by decide) ww_k1 wl_X8 ww_so ww_so2 kc_X8_above kv_X8_above kg_X8_above ?_ ha_X8_above bd_X8_above
  intro k i q hi hq
  simp [cs_X8_above] at hq
abbrev cs_X8_client : List (Nat × qq_t) := [(3, T_X8_in), (1, T_X8_anew)]
def T_X8_client : qq_t := fun As w P => match As with
  | [.ref 8, .int a0] => qq_go ww_sh ww_ro cs_X8_client (qq_at 27 kd_X8_client) (some .int) (fun _ => false) P qq_no 18 0 (lv_args 0 [.ref 8, .int a0]) [] w
  | _ => False
theorem bd_X8_client : ∀ As w P K, qq_Sat ww_sh ww_ro cs_X8_client (qq_at 27 kd_X8_client) (some .int) P K → T_X8_client As w P → K 0 (lv_args 0 As) [] w := by
  intro As w P K S h
  unfold T_X8_client at h
  split at h
  · exact qq_go_all S h
  · exact h.elim
theorem ha_X8_client : ∀ As w P, T_X8_client As w P → qq_wd As ≤ 3 := by
  intro As w P h
  unfold T_X8_client at h
  split at h
  · exact Nat.le_of_ble_eq_true rfl
  · exact h.elim
theorem hv_X8_client : ∀ As w P, T_X8_client As w P → ∃ (k : Nat) (r : List Value) (fs : List Nat), As = .ref k :: r ∧ ww_sh[k]? = some (.inr (8, fs)) := by
  intro As w P h
  unfold T_X8_client at h
  split at h
  · exact ⟨_, _, _, rfl, rfl⟩
  · exact h.elim
set_option maxRecDepth 100000 in
theorem M_X8_client (l : Launch) : qq_M l ww_T ww_N vwCl ww_sh ww_ro ww_zs yX8_client cX8_client 3 (some .int) (ww_rm 1) T_X8_client := by
  refine qq_mk (host := RX7) (is := ki_X8_client) (cs := cs_X8_client) (by decide) ww_k1 wl_X8 ww_so ww_so2 kc_X8_client kv_X8_client kg_X8_client ?_ ha_X8_client bd_X8_client
  intro k i q hi hq
  match k, hi, hq with
  | 0, hi, hq => cases hi; cases hq; exact fun p e s m args below meth c D tys tC ad Q pc X hdg => qq_cS X ww_gd (M_X8_in l) kf_X8_in.1 (Or.inl (ww_a5 (i := 76) (w := Cond.methodLink RX8 105 yX8_in) rfl rfl)) kf_X8_in.2.1 kf_X8_in.2.2 ⟨by decide, by decide, by decide +kernel⟩ rfl rfl ⟨by decide, by decide⟩ ⟨Nat.le_refl _, Nat.le_refl _⟩ hdg
  | 1, hi, hq => cases hi; cases hq; exact fun p e s m args below meth c D tys tC ad Q pc X hdg => qq_cV (ci := 8) X ww_gd (M_X8_anew l) kf_X8_anew.1 (Or.inl (ww_a5 (i := 83) (w := Cond.methodLink RX8 116 yX8_anew) rfl rfl)) kf_X8_anew.2.1 kf_X8_anew.2.2.1 kf_X8_anew.2.2.2 ⟨by decide, by decide, by decide +kernel⟩ rfl rfl rfl ⟨by decide, by decide⟩ ⟨Nat.le_refl _, Nat.le_refl _⟩ hv_X8_anew hdg
  | n + 2, hi, hq => simp [cs_X8_client] at hq
abbrev cs_X8_lays : List (Nat × qq_t) := [(2, T_X8_meets), (1, T_X8_anew)]
def T_X8_lays : qq_t := fun As w P => match As with
  | [.ref 8, .int a0, .int a1, .int a2, .int a3] => qq_go ww_sh ww_ro cs_X8_lays (qq_at 45 kd_X8_lays) (some .int) (fun _ => false) P qq_no 30 0 (lv_args 0 [.ref 8, .int a0, .int a1, .int a2, .int a3]) [] w
  | _ => False
theorem bd_X8_lays : ∀ As w P K, qq_Sat ww_sh ww_ro cs_X8_lays (qq_at 45 kd_X8_lays) (some .int) P K → T_X8_lays As w P → K 0 (lv_args 0 As) [] w := by
  intro As w P K S h
  unfold T_X8_lays at h
  split at h
  · exact qq_go_all S h
  · exact h.elim
theorem ha_X8_lays : ∀ As w P, T_X8_lays As w P → qq_wd As ≤ 5 := by
  intro As w P h
  unfold T_X8_lays at h
  split at h
  · exact Nat.le_of_ble_eq_true rfl
  · exact h.elim
theorem hv_X8_lays : ∀ As w P, T_X8_lays As w P → ∃ (k : Nat) (r : List Value) (fs : List Nat), As = .ref k :: r ∧ ww_sh[k]? = some (.inr (8, fs)) := by
  intro As w P h
  unfold T_X8_lays at h
  split at h
  · exact ⟨_, _, _, rfl, rfl⟩
  · exact h.elim
set_option maxRecDepth 100000 in
theorem M_X8_lays (l : Launch) : qq_M l ww_T ww_N vwCl ww_sh ww_ro ww_zs yX8_lays cX8_lays 5 (some .int) (ww_rm 1) T_X8_lays := by
  refine qq_mk (host := RX7) (is := ki_X8_lays) (cs := cs_X8_lays) (by decide) ww_k1 wl_X8 ww_so ww_so2 kc_X8_lays kv_X8_lays kg_X8_lays ?_ ha_X8_lays bd_X8_lays
  intro k i q hi hq
  match k, hi, hq with
  | 0, hi, hq => cases hi; cases hq; exact fun p e s m args below meth c D tys tC ad Q pc X hdg => qq_cV (ci := 8) X ww_gd (M_X8_meets l) kf_X8_meets.1 (Or.inl (ww_a5 (i := 117) (w := Cond.methodLink RX8 137 yX8_meets) rfl rfl)) kf_X8_meets.2.1 kf_X8_meets.2.2.1 kf_X8_meets.2.2.2 ⟨by decide, by decide, by decide +kernel⟩ rfl rfl rfl ⟨by decide, by decide⟩ ⟨Nat.le_refl _, Nat.le_refl _⟩ hv_X8_meets hdg
  | 1, hi, hq => cases hi; cases hq; exact fun p e s m args below meth c D tys tC ad Q pc X hdg => qq_cV (ci := 8) X ww_gd (M_X8_anew l) kf_X8_anew.1 (Or.inl (ww_a5 (i := 83) (w := Cond.methodLink RX8 116 yX8_anew) rfl rfl)) kf_X8_anew.2.1 kf_X8_anew.2.2.1 kf_X8_anew.2.2.2 ⟨by decide, by decide, by decide +kernel⟩ rfl rfl rfl ⟨by decide, by decide⟩ ⟨Nat.le_refl _, Nat.le_refl _⟩ hv_X8_anew hdg
  | n + 2, hi, hq => simp [cs_X8_lays] at hq
abbrev cs_X8_flow : List (Nat × qq_t) := [(2, T_X8_isNode), (3, T_X8_in), (5, T_X8_lays)]
def T_X8_flow : qq_t := fun As w P => match As with
  | [.ref 8, .int a0, .int a1, .int a2, .int a3] => qq_go ww_sh ww_ro cs_X8_flow (qq_at 53 kd_X8_flow) (some .int) (fun _ => false) P qq_no 29 0 (lv_args 0 [.ref 8, .int a0, .int a1, .int a2, .int a3]) [] w
  | _ => False
theorem bd_X8_flow : ∀ As w P K, qq_Sat ww_sh ww_ro cs_X8_flow (qq_at 53 kd_X8_flow) (some .int) P K → T_X8_flow As w P → K 0 (lv_args 0 As) [] w := by
  intro As w P K S h
  unfold T_X8_flow at h
  split at h
  · exact qq_go_all S h
  · exact h.elim
theorem ha_X8_flow : ∀ As w P, T_X8_flow As w P → qq_wd As ≤ 5 := by
  intro As w P h
  unfold T_X8_flow at h
  split at h
  · exact Nat.le_of_ble_eq_true rfl
  · exact h.elim
theorem hv_X8_flow : ∀ As w P, T_X8_flow As w P → ∃ (k : Nat) (r : List Value) (fs : List Nat), As = .ref k :: r ∧ ww_sh[k]? = some (.inr (8, fs)) := by
  intro As w P h
  unfold T_X8_flow at h
  split at h
  · exact ⟨_, _, _, rfl, rfl⟩
  · exact h.elim
set_option maxRecDepth 100000 in
theorem M_X8_flow (l : Launch) : qq_M l ww_T ww_N vwCl ww_sh ww_ro ww_zs yX8_flow cX8_flow 5 (some .int) (ww_rm 2) T_X8_flow := by
  refine qq_mk (host := RX7) (is := ki_X8_flow) (cs := cs_X8_flow) (by decide) ww_k1 wl_X8 ww_so ww_so2 kc_X8_flow kv_X8_flow kg_X8_flow ?_ ha_X8_flow bd_X8_flow
  intro k i q hi hq
  match k, hi, hq with
  | 0, hi, hq => cases hi; cases hq; exact fun p e s m args below meth c D tys tC ad Q pc X hdg => qq_cV (ci := 8) X ww_gd (M_X8_isNode l) kf_X8_isNode.1 (Or.inl (ww_a5 (i := 125) (w := Cond.methodLink RX8 144 yX8_isNode) rfl rfl)) kf_X8_isNode.2.1 kf_X8_isNode.2.2.1 kf_X8_isNode.2.2.2 ⟨by decide, by decide, by decide +kernel⟩ rfl rfl rfl ⟨by decide, by decide⟩ ⟨Nat.le_refl _, Nat.le_refl _⟩ hv_X8_isNode hdg
  | 1, hi, hq => cases hi; cases hq; exact fun p e s m args below meth c D tys tC ad Q pc X hdg => qq_cS X ww_gd (M_X8_in l) kf_X8_in.1 (Or.inl (ww_a5 (i := 76) (w := Cond.methodLink RX8 105 yX8_in) rfl rfl)) kf_X8_in.2.1 kf_X8_in.2.2 ⟨by decide, by decide, by decide +kernel⟩ rfl rfl ⟨by decide, by decide⟩ ⟨Nat.le_refl _, Nat.le_refl _⟩ hdg
  | 2, hi, hq => cases hi; cases hq; exact fun p e s m args below meth c D tys tC ad Q pc X hdg => qq_cV (ci := 8) X ww_gd (M_X8_lays l) kf_X8_lays.1 (Or.inl (ww_a5 (i := 167) (w := Cond.methodLink RX8 162 yX8_lays) rfl rfl)) kf_X8_lays.2.1 kf_X8_lays.2.2.1 kf_X8_lays.2.2.2 ⟨by decide, by decide, by decide +kernel⟩ rfl rfl rfl ⟨by decide, by decide⟩ ⟨Nat.le_refl _, Nat.le_refl _⟩ hv_X8_lays hdg
  | n + 3, hi, hq => simp [cs_X8_flow] at hq
abbrev cs_X8_zero : List (Nat × qq_t) := [(2, T_X8_isNode), (3, T_X8_in), (5, T_X8_lays)]
def T_X8_zero : qq_t := fun As w P => match As with
  | [.ref 8, .int a0, .int a1, .int a2] => qq_go ww_sh ww_ro cs_X8_zero (qq_at 41 kd_X8_zero) (some .int) (fun _ => false) P qq_no 24 0 (lv_args 0 [.ref 8, .int a0, .int a1, .int a2]) [] w
  | _ => False
theorem bd_X8_zero : ∀ As w P K, qq_Sat ww_sh ww_ro cs_X8_zero (qq_at 41 kd_X8_zero) (some .int) P K → T_X8_zero As w P → K 0 (lv_args 0 As) [] w := by
  intro As w P K S h
  unfold T_X8_zero at h
  split at h
  · exact qq_go_all S h
  · exact h.elim
theorem ha_X8_zero : ∀ As w P, T_X8_zero As w P → qq_wd As ≤ 4 := by
  intro As w P h
  unfold T_X8_zero at h
  split at h
  · exact Nat.le_of_ble_eq_true rfl
  · exact h.elim
theorem hv_X8_zero : ∀ As w P, T_X8_zero As w P → ∃ (k : Nat) (r : List Value) (fs : List Nat), As = .ref k :: r ∧ ww_sh[k]? = some (.inr (8, fs)) := by
  intro As w P h
  unfold T_X8_zero at h
  split at h
  · exact ⟨_, _, _, rfl, rfl⟩
  · exact h.elim
set_option maxRecDepth 100000 in
theorem M_X8_zero (l : Launch) : qq_M l ww_T ww_N vwCl ww_sh ww_ro ww_zs yX8_zero cX8_zero 4 (some .int) (ww_rm 2) T_X8_zero := by
  refine qq_mk (host := RX7) (is := ki_X8_zero) (cs := cs_X8_zero) (by decide) ww_k1 wl_X8 ww_so ww_so2 kc_X8_zero kv_X8_zero kg_X8_zero ?_ ha_X8_zero bd_X8_zero
  intro k i q hi hq
  match k, hi, hq with
  | 0, hi, hq => cases hi; cases hq; exact fun p e s m args below meth c D tys tC ad Q pc X hdg => qq_cV (ci := 8) X ww_gd (M_X8_isNode l) kf_X8_isNode.1 (Or.inl (ww_a5 (i := 125) (w := Cond.methodLink RX8 144 yX8_isNode) rfl rfl)) kf_X8_isNode.2.1 kf_X8_isNode.2.2.1 kf_X8_isNode.2.2.2 ⟨by decide, by decide, by decide +kernel⟩ rfl rfl rfl ⟨by decide, by decide⟩ ⟨Nat.le_refl _, Nat.le_refl _⟩ hv_X8_isNode hdg
  | 1, hi, hq => cases hi; cases hq; exact fun p e s m args below meth c D tys tC ad Q pc X hdg => qq_cS X ww_gd (M_X8_in l) kf_X8_in.1 (Or.inl (ww_a5 (i := 76) (w := Cond.methodLink RX8 105 yX8_in) rfl rfl)) kf_X8_in.2.1 kf_X8_in.2.2 ⟨by decide, by decide, by decide +kernel⟩ rfl rfl ⟨by decide, by decide⟩ ⟨Nat.le_refl _, Nat.le_refl _⟩ hdg
  | 2, hi, hq => cases hi; cases hq; exact fun p e s m args below meth c D tys tC ad Q pc X hdg => qq_cV (ci := 8) X ww_gd (M_X8_lays l) kf_X8_lays.1 (Or.inl (ww_a5 (i := 167) (w := Cond.methodLink RX8 162 yX8_lays) rfl rfl)) kf_X8_lays.2.1 kf_X8_lays.2.2.1 kf_X8_lays.2.2.2 ⟨by decide, by decide, by decide +kernel⟩ rfl rfl rfl ⟨by decide, by decide⟩ ⟨Nat.le_refl _, Nat.le_refl _⟩ hv_X8_lays hdg
  | n + 3, hi, hq => simp [cs_X8_zero] at hq
abbrev cs_X8_begin : List (Nat × qq_t) := [(3, T_X8_in), (1, T_X8_anew)]
def T_X8_begin : qq_t := fun As w P => match As with
  | [.ref 8, .int a0] => qq_go ww_sh ww_ro cs_X8_begin (qq_at 29 kd_X8_begin) (some .int) (fun _ => false) P qq_no 18 0 (lv_args 0 [.ref 8, .int a0]) [] w
  | _ => False
theorem bd_X8_begin : ∀ As w P K, qq_Sat ww_sh ww_ro cs_X8_begin (qq_at 29 kd_X8_begin) (some .int) P K → T_X8_begin As w P → K 0 (lv_args 0 As) [] w := by
  intro As w P K S h
  unfold T_X8_begin at h
  split at h
  · exact qq_go_all S h
  · exact h.elim
theorem ha_X8_begin : ∀ As w P, T_X8_begin As w P → qq_wd As ≤ 3 := by
  intro As w P h
  unfold T_X8_begin at h
  split at h
  · exact Nat.le_of_ble_eq_true rfl
  · exact h.elim
theorem hv_X8_begin : ∀ As w P, T_X8_begin As w P → ∃ (k : Nat) (r : List Value) (fs : List Nat), As = .ref k :: r ∧ ww_sh[k]? = some (.inr (8, fs)) := by
  intro As w P h
  unfold T_X8_begin at h
  split at h
  · exact ⟨_, _, _, rfl, rfl⟩
  · exact h.elim
set_option maxRecDepth 100000 in
theorem M_X8_begin (l : Launch) : qq_M l ww_T ww_N vwCl ww_sh ww_ro ww_zs yX8_begin cX8_begin 3 (some .int) (ww_rm 1) T_X8_begin := by
  refine qq_mk (host := RX7) (is := ki_X8_begin) (cs := cs_X8_begin) (by decide) ww_k1 wl_X8 ww_so ww_so2 kc_X8_begin kv_X8_begin kg_X8_begin ?_ ha_X8_begin bd_X8_begin
  intro k i q hi hq
  match k, hi, hq with
  | 0, hi, hq => cases hi; cases hq; exact fun p e s m args below meth c D tys tC ad Q pc X hdg => qq_cS X ww_gd (M_X8_in l) kf_X8_in.1 (Or.inl (ww_a5 (i := 76) (w := Cond.methodLink RX8 105 yX8_in) rfl rfl)) kf_X8_in.2.1 kf_X8_in.2.2 ⟨by decide, by decide, by decide +kernel⟩ rfl rfl ⟨by decide, by decide⟩ ⟨Nat.le_refl _, Nat.le_refl _⟩ hdg
  | 1, hi, hq => cases hi; cases hq; exact fun p e s m args below meth c D tys tC ad Q pc X hdg => qq_cV (ci := 8) X ww_gd (M_X8_anew l) kf_X8_anew.1 (Or.inl (ww_a5 (i := 83) (w := Cond.methodLink RX8 116 yX8_anew) rfl rfl)) kf_X8_anew.2.1 kf_X8_anew.2.2.1 kf_X8_anew.2.2.2 ⟨by decide, by decide, by decide +kernel⟩ rfl rfl rfl ⟨by decide, by decide⟩ ⟨Nat.le_refl _, Nat.le_refl _⟩ hv_X8_anew hdg
  | n + 2, hi, hq => simp [cs_X8_begin] at hq
abbrev cs_X8_isSolved : List (Nat × qq_t) := []
def T_X8_isSolved : qq_t := fun As w P => match As with
  | [.ref 8] => qq_go ww_sh ww_ro cs_X8_isSolved (qq_at 24 kd_X8_isSolved) (some .boolean) (fun _ => false) P qq_no 13 0 (lv_args 0 [.ref 8]) [] w
  | _ => False
theorem bd_X8_isSolved : ∀ As w P K, qq_Sat ww_sh ww_ro cs_X8_isSolved (qq_at 24 kd_X8_isSolved) (some .boolean) P K → T_X8_isSolved As w P → K 0 (lv_args 0 As) [] w := by
  intro As w P K S h
  unfold T_X8_isSolved at h
  split at h
  · exact qq_go_all S h
  · exact h.elim
theorem ha_X8_isSolved : ∀ As w P, T_X8_isSolved As w P → qq_wd As ≤ 1 := by
  intro As w P h
  unfold T_X8_isSolved at h
  split at h
  · exact Nat.le_of_ble_eq_true rfl
  · exact h.elim
theorem hv_X8_isSolved : ∀ As w P, T_X8_isSolved As w P → ∃ (k : Nat) (r : List Value) (fs : List Nat), As = .ref k :: r ∧ ww_sh[k]? = some (.inr (8, fs)) := by
  intro As w P h
  unfold T_X8_isSolved at h
  split at h
  · exact ⟨_, _, _, rfl, rfl⟩
  · exact h.elim
set_option maxRecDepth 100000 in
theorem M_X8_isSolved (l : Launch) : qq_M l ww_T ww_N vwCl ww_sh ww_ro ww_zs yX8_isSolved cX8_isSolved 1 (some .boolean) (ww_rm 0) T_X8_isSolved := by
  refine qq_mk (host := RX7) (is := ki_X8_isSolved) (cs := cs_X8_isSolved) (by decide) ww_k1 wl_X8 ww_so ww_so2 kc_X8_isSolved kv_X8_isSolved kg_X8_isSolved ?_ ha_X8_isSolved bd_X8_isSolved
  intro k i q hi hq
  simp [cs_X8_isSolved] at hq
abbrev cs_X8_solved : List (Nat × qq_t) := [(1, T_X8_isSolved)]
def T_X8_solved : qq_t := fun As w P => match As with
  | [.ref 8] => qq_go ww_sh ww_ro cs_X8_solved (qq_at 13 kd_X8_solved) (some .int) (fun _ => false) P qq_no 8 0 (lv_args 0 [.ref 8]) [] w
  | _ => False
theorem bd_X8_solved : ∀ As w P K, qq_Sat ww_sh ww_ro cs_X8_solved (qq_at 13 kd_X8_solved) (some .int) P K → T_X8_solved As w P → K 0 (lv_args 0 As) [] w := by
  intro As w P K S h
  unfold T_X8_solved at h
  split at h
  · exact qq_go_all S h
  · exact h.elim
theorem ha_X8_solved : ∀ As w P, T_X8_solved As w P → qq_wd As ≤ 1 := by
  intro As w P h
  unfold T_X8_solved at h
  split at h
  · exact Nat.le_of_ble_eq_true rfl
  · exact h.elim
theorem hv_X8_solved : ∀ As w P, T_X8_solved As w P → ∃ (k : Nat) (r : List Value) (fs : List Nat), As = .ref k :: r ∧ ww_sh[k]? = some (.inr (8, fs)) := by
  intro As w P h
  unfold T_X8_solved at h
  split at h
  · exact ⟨_, _, _, rfl, rfl⟩
  · exact h.elim
set_option maxRecDepth 100000 in
theorem M_X8_solved (l : Launch) : qq_M l ww_T ww_N vwCl ww_sh ww_ro ww_zs yX8_solved cX8_solved 1 (some .int) (ww_rm 1) T_X8_solved := by
  refine qq_mk (host := RX7) (is := ki_X8_solved) (cs := cs_X8_solved) (by decide) ww_k1 wl_X8 ww_so ww_so2 kc_X8_solved kv_X8_solved kg_X8_solved ?_ ha_X8_solved bd_X8_solved
  intro k i q hi hq
  match k, hi, hq with
  | 0, hi, hq => cases hi; cases hq; exact fun p e s m args below meth c D tys tC ad Q pc X hdg => qq_cV (ci := 8) X ww_gd (M_X8_isSolved l) kf_X8_isSolved.1 (Or.inl (ww_a6 (i := 22) (w := Cond.methodLink RX8 243 yX8_isSolved) rfl rfl)) kf_X8_isSolved.2.1 kf_X8_isSolved.2.2.1 kf_X8_isSolved.2.2.2 ⟨by decide, by decide, by decide +kernel⟩ rfl rfl rfl ⟨by decide, by decide⟩ ⟨Nat.le_refl _, Nat.le_refl _⟩ hv_X8_isSolved hdg
  | n + 1, hi, hq => simp [cs_X8_solved] at hq
abbrev cs_X8_edges : List (Nat × qq_t) := [(1, T_X8_isSolved)]
def T_X8_edges : qq_t := fun As w P => match As with
  | [.ref 8, .int a0] => qq_go ww_sh ww_ro cs_X8_edges (qq_at 28 kd_X8_edges) (some .int) (fun _ => false) P qq_no 14 0 (lv_args 0 [.ref 8, .int a0]) [] w
  | _ => False
theorem bd_X8_edges : ∀ As w P K, qq_Sat ww_sh ww_ro cs_X8_edges (qq_at 28 kd_X8_edges) (some .int) P K → T_X8_edges As w P → K 0 (lv_args 0 As) [] w := by
  intro As w P K S h
  unfold T_X8_edges at h
  split at h
  · exact qq_go_all S h
  · exact h.elim
theorem ha_X8_edges : ∀ As w P, T_X8_edges As w P → qq_wd As ≤ 2 := by
  intro As w P h
  unfold T_X8_edges at h
  split at h
  · exact Nat.le_of_ble_eq_true rfl
  · exact h.elim
theorem hv_X8_edges : ∀ As w P, T_X8_edges As w P → ∃ (k : Nat) (r : List Value) (fs : List Nat), As = .ref k :: r ∧ ww_sh[k]? = some (.inr (8, fs)) := by
  intro As w P h
  unfold T_X8_edges at h
  split at h
  · exact ⟨_, _, _, rfl, rfl⟩
  · exact h.elim
set_option maxRecDepth 100000 in
theorem M_X8_edges (l : Launch) : qq_M l ww_T ww_N vwCl ww_sh ww_ro ww_zs yX8_edges cX8_edges 2 (some .int) (ww_rm 1) T_X8_edges := by
  refine qq_mk (host := RX7) (is := ki_X8_edges) (cs := cs_X8_edges) (by decide) ww_k1 wl_X8 ww_so ww_so2 kc_X8_edges kv_X8_edges kg_X8_edges ?_ ha_X8_edges bd_X8_edges
  intro k i q hi hq
  match k, hi, hq with
  | 0, hi, hq => cases hi; cases hq; exact fun p e s m args below meth c D tys tC ad Q pc X hdg => qq_cV (ci := 8) X ww_gd (M_X8_isSolved l) kf_X8_isSolved.1 (Or.inl (ww_a6 (i := 22) (w := Cond.methodLink RX8 243 yX8_isSolved) rfl rfl)) kf_X8_isSolved.2.1 kf_X8_isSolved.2.2.1 kf_X8_isSolved.2.2.2 ⟨by decide, by decide, by decide +kernel⟩ rfl rfl rfl ⟨by decide, by decide⟩ ⟨Nat.le_refl _, Nat.le_refl _⟩ hv_X8_isSolved hdg
  | n + 1, hi, hq => simp [cs_X8_edges] at hq
abbrev cs_X8_from : List (Nat × qq_t) := [(2, T_X8_isNode), (3, T_X8_in), (1, T_X8_isSolved)]
def T_X8_from : qq_t := fun As w P => match As with
  | [.ref 8, .int a0, .int a1] => qq_go ww_sh ww_ro cs_X8_from (qq_at 46 kd_X8_from) (some .int) (fun _ => false) P qq_no 26 0 (lv_args 0 [.ref 8, .int a0, .int a1]) [] w
  | _ => False
theorem bd_X8_from : ∀ As w P K, qq_Sat ww_sh ww_ro cs_X8_from (qq_at 46 kd_X8_from) (some .int) P K → T_X8_from As w P → K 0 (lv_args 0 As) [] w := by
  intro As w P K S h
  unfold T_X8_from at h
  split at h
  · exact qq_go_all S h
  · exact h.elim
theorem ha_X8_from : ∀ As w P, T_X8_from As w P → qq_wd As ≤ 3 := by
  intro As w P h
  unfold T_X8_from at h
  split at h
  · exact Nat.le_of_ble_eq_true rfl
  · exact h.elim
theorem hv_X8_from : ∀ As w P, T_X8_from As w P → ∃ (k : Nat) (r : List Value) (fs : List Nat), As = .ref k :: r ∧ ww_sh[k]? = some (.inr (8, fs)) := by
  intro As w P h
  unfold T_X8_from at h
  split at h
  · exact ⟨_, _, _, rfl, rfl⟩
  · exact h.elim
set_option maxRecDepth 100000 in
theorem M_X8_from (l : Launch) : qq_M l ww_T ww_N vwCl ww_sh ww_ro ww_zs yX8_from cX8_from 3 (some .int) (ww_rm 2) T_X8_from := by
  refine qq_mk (host := RX7) (is := ki_X8_from) (cs := cs_X8_from) (by decide) ww_k1 wl_X8 ww_so ww_so2 kc_X8_from kv_X8_from kg_X8_from ?_ ha_X8_from bd_X8_from
  intro k i q hi hq
  match k, hi, hq with
  | 0, hi, hq => cases hi; cases hq; exact fun p e s m args below meth c D tys tC ad Q pc X hdg => qq_cV (ci := 8) X ww_gd (M_X8_isNode l) kf_X8_isNode.1 (Or.inl (ww_a5 (i := 125) (w := Cond.methodLink RX8 144 yX8_isNode) rfl rfl)) kf_X8_isNode.2.1 kf_X8_isNode.2.2.1 kf_X8_isNode.2.2.2 ⟨by decide, by decide, by decide +kernel⟩ rfl rfl rfl ⟨by decide, by decide⟩ ⟨Nat.le_refl _, Nat.le_refl _⟩ hv_X8_isNode hdg
  | 1, hi, hq => cases hi; cases hq; exact fun p e s m args below meth c D tys tC ad Q pc X hdg => qq_cS X ww_gd (M_X8_in l) kf_X8_in.1 (Or.inl (ww_a5 (i := 76) (w := Cond.methodLink RX8 105 yX8_in) rfl rfl)) kf_X8_in.2.1 kf_X8_in.2.2 ⟨by decide, by decide, by decide +kernel⟩ rfl rfl ⟨by decide, by decide⟩ ⟨Nat.le_refl _, Nat.le_refl _⟩ hdg
  | 2, hi, hq => cases hi; cases hq; exact fun p e s m args below meth c D tys tC ad Q pc X hdg => qq_cV (ci := 8) X ww_gd (M_X8_isSolved l) kf_X8_isSolved.1 (Or.inl (ww_a6 (i := 22) (w := Cond.methodLink RX8 243 yX8_isSolved) rfl rfl)) kf_X8_isSolved.2.1 kf_X8_isSolved.2.2.1 kf_X8_isSolved.2.2.2 ⟨by decide, by decide, by decide +kernel⟩ rfl rfl rfl ⟨by decide, by decide⟩ ⟨Nat.le_refl _, Nat.le_refl _⟩ hv_X8_isSolved hdg
  | n + 3, hi, hq => simp [cs_X8_from] at hq
abbrev cs_X8_summary : List (Nat × qq_t) := [(2, T_X8_isNode), (3, T_X8_in), (2, T_X8_meets), (1, T_X8_isSolved)]
def T_X8_summary : qq_t := fun As w P => match As with
  | [.ref 8, .int a0, .int a1] => qq_go ww_sh ww_ro cs_X8_summary (qq_at 63 kd_X8_summary) (some .int) (fun _ => false) P qq_no 36 0 (lv_args 0 [.ref 8, .int a0, .int a1]) [] w
  | _ => False
theorem bd_X8_summary : ∀ As w P K, qq_Sat ww_sh ww_ro cs_X8_summary (qq_at 63 kd_X8_summary) (some .int) P K → T_X8_summary As w P → K 0 (lv_args 0 As) [] w := by
  intro As w P K S h
  unfold T_X8_summary at h
  split at h
  · exact qq_go_all S h
  · exact h.elim
theorem ha_X8_summary : ∀ As w P, T_X8_summary As w P → qq_wd As ≤ 3 := by
  intro As w P h
  unfold T_X8_summary at h
  split at h
  · exact Nat.le_of_ble_eq_true rfl
  · exact h.elim
theorem hv_X8_summary : ∀ As w P, T_X8_summary As w P → ∃ (k : Nat) (r : List Value) (fs : List Nat), As = .ref k :: r ∧ ww_sh[k]? = some (.inr (8, fs)) := by
  intro As w P h
  unfold T_X8_summary at h
  split at h
  · exact ⟨_, _, _, rfl, rfl⟩
  · exact h.elim
set_option maxRecDepth 100000 in
theorem M_X8_summary (l : Launch) : qq_M l ww_T ww_N vwCl ww_sh ww_ro ww_zs yX8_summary cX8_summary 3 (some .int) (ww_rm 2) T_X8_summary := by
  refine qq_mk (host := RX7) (is := ki_X8_summary) (cs := cs_X8_summary) (by decide) ww_k1 wl_X8 ww_so ww_so2 kc_X8_summary kv_X8_summary kg_X8_summary ?_ ha_X8_summary bd_X8_summary
  intro k i q hi hq
  match k, hi, hq with
  | 0, hi, hq => cases hi; cases hq; exact fun p e s m args below meth c D tys tC ad Q pc X hdg => qq_cV (ci := 8) X ww_gd (M_X8_isNode l) kf_X8_isNode.1 (Or.inl (ww_a5 (i := 125) (w := Cond.methodLink RX8 144 yX8_isNode) rfl rfl)) kf_X8_isNode.2.1 kf_X8_isNode.2.2.1 kf_X8_isNode.2.2.2 ⟨by decide, by decide, by decide +kernel⟩ rfl rfl rfl ⟨by decide, by decide⟩ ⟨Nat.le_refl _, Nat.le_refl _⟩ hv_X8_isNode hdg
  | 1, hi, hq => cases hi; cases hq; exact fun p e s m args below meth c D tys tC ad Q pc X hdg => qq_cS X ww_gd (M_X8_in l) kf_X8_in.1 (Or.inl (ww_a5 (i := 76) (w := Cond.methodLink RX8 105 yX8_in) rfl rfl)) kf_X8_in.2.1 kf_X8_in.2.2 ⟨by decide, by decide, by decide +kernel⟩ rfl rfl ⟨by decide, by decide⟩ ⟨Nat.le_refl _, Nat.le_refl _⟩ hdg
  | 2, hi, hq => cases hi; cases hq; exact fun p e s m args below meth c D tys tC ad Q pc X hdg => qq_cV (ci := 8) X ww_gd (M_X8_meets l) kf_X8_meets.1 (Or.inl (ww_a5 (i := 117) (w := Cond.methodLink RX8 137 yX8_meets) rfl rfl)) kf_X8_meets.2.1 kf_X8_meets.2.2.1 kf_X8_meets.2.2.2 ⟨by decide, by decide, by decide +kernel⟩ rfl rfl rfl ⟨by decide, by decide⟩ ⟨Nat.le_refl _, Nat.le_refl _⟩ hv_X8_meets hdg
  | 3, hi, hq => cases hi; cases hq; exact fun p e s m args below meth c D tys tC ad Q pc X hdg => qq_cV (ci := 8) X ww_gd (M_X8_isSolved l) kf_X8_isSolved.1 (Or.inl (ww_a6 (i := 22) (w := Cond.methodLink RX8 243 yX8_isSolved) rfl rfl)) kf_X8_isSolved.2.1 kf_X8_isSolved.2.2.1 kf_X8_isSolved.2.2.2 ⟨by decide, by decide, by decide +kernel⟩ rfl rfl rfl ⟨by decide, by decide⟩ ⟨Nat.le_refl _, Nat.le_refl _⟩ hv_X8_isSolved hdg
  | n + 4, hi, hq => simp [cs_X8_summary] at hq
abbrev cs_X8_at : List (Nat × qq_t) := []
def T_X8_at : qq_t := fun As w P => match As with
  | [.ref 8, .int a0, .int a1, .int a2] => qq_go ww_sh ww_ro cs_X8_at (qq_at 13 kd_X8_at) (some .int) (fun _ => false) P qq_no 11 0 (lv_args 0 [.ref 8, .int a0, .int a1, .int a2]) [] w
  | _ => False
theorem bd_X8_at : ∀ As w P K, qq_Sat ww_sh ww_ro cs_X8_at (qq_at 13 kd_X8_at) (some .int) P K → T_X8_at As w P → K 0 (lv_args 0 As) [] w := by
  intro As w P K S h
  unfold T_X8_at at h
  split at h
  · exact qq_go_all S h
  · exact h.elim
theorem ha_X8_at : ∀ As w P, T_X8_at As w P → qq_wd As ≤ 4 := by
  intro As w P h
  unfold T_X8_at at h
  split at h
  · exact Nat.le_of_ble_eq_true rfl
  · exact h.elim
theorem hv_X8_at : ∀ As w P, T_X8_at As w P → ∃ (k : Nat) (r : List Value) (fs : List Nat), As = .ref k :: r ∧ ww_sh[k]? = some (.inr (8, fs)) := by
  intro As w P h
  unfold T_X8_at at h
  split at h
  · exact ⟨_, _, _, rfl, rfl⟩
  · exact h.elim
set_option maxRecDepth 100000 in
theorem M_X8_at (l : Launch) : qq_M l ww_T ww_N vwCl ww_sh ww_ro ww_zs yX8_at cX8_at 4 (some .int) (ww_rm 0) T_X8_at := by
  refine qq_mk (host := RX7) (is := ki_X8_at) (cs := cs_X8_at) (by decide) ww_k1 wl_X8 ww_so ww_so2 kc_X8_at kv_X8_at kg_X8_at ?_ ha_X8_at bd_X8_at
  intro k i q hi hq
  simp [cs_X8_at] at hq
abbrev cs_X8_comes : List (Nat × qq_t) := []
def T_X8_comes : qq_t := fun As w P => match As with
  | [.ref 8, .int a0, .int a1, .int a2] => qq_go ww_sh ww_ro cs_X8_comes (qq_at 82 kd_X8_comes) none (fun _ => false) P qq_no 49 0 (lv_args 0 [.ref 8, .int a0, .int a1, .int a2]) [] w
  | _ => False
theorem bd_X8_comes : ∀ As w P K, qq_Sat ww_sh ww_ro cs_X8_comes (qq_at 82 kd_X8_comes) none P K → T_X8_comes As w P → K 0 (lv_args 0 As) [] w := by
  intro As w P K S h
  unfold T_X8_comes at h
  split at h
  · exact qq_go_all S h
  · exact h.elim
theorem ha_X8_comes : ∀ As w P, T_X8_comes As w P → qq_wd As ≤ 4 := by
  intro As w P h
  unfold T_X8_comes at h
  split at h
  · exact Nat.le_of_ble_eq_true rfl
  · exact h.elim
theorem hv_X8_comes : ∀ As w P, T_X8_comes As w P → ∃ (k : Nat) (r : List Value) (fs : List Nat), As = .ref k :: r ∧ ww_sh[k]? = some (.inr (8, fs)) := by
  intro As w P h
  unfold T_X8_comes at h
  split at h
  · exact ⟨_, _, _, rfl, rfl⟩
  · exact h.elim
set_option maxRecDepth 100000 in
theorem M_X8_comes (l : Launch) : qq_M l ww_T ww_N vwCl ww_sh ww_ro ww_zs yX8_comes cX8_comes 4 none (ww_rm 0) T_X8_comes := by
  refine qq_mk (host := RX7) (is := ki_X8_comes) (cs := cs_X8_comes) (by decide) ww_k1 wl_X8 ww_so ww_so2 kc_X8_comes kv_X8_comes kg_X8_comes ?_ ha_X8_comes bd_X8_comes
  intro k i q hi hq
  simp [cs_X8_comes] at hq
abbrev cs_X8_at_ : List (Nat × qq_t) := [(3, T_X8_in)]
def T_X8_at_ : qq_t := fun As w P => match As with
  | [.ref 8, .int a0, .int a1] => qq_go ww_sh ww_ro cs_X8_at_ (qq_at 73 kd_X8_at_) (some .int) (fun _ => false) P qq_no 44 0 (lv_args 0 [.ref 8, .int a0, .int a1]) [] w
  | _ => False
theorem bd_X8_at_ : ∀ As w P K, qq_Sat ww_sh ww_ro cs_X8_at_ (qq_at 73 kd_X8_at_) (some .int) P K → T_X8_at_ As w P → K 0 (lv_args 0 As) [] w := by
  intro As w P K S h
  unfold T_X8_at_ at h
  split at h
  · exact qq_go_all S h
  · exact h.elim
theorem ha_X8_at_ : ∀ As w P, T_X8_at_ As w P → qq_wd As ≤ 3 := by
  intro As w P h
  unfold T_X8_at_ at h
  split at h
  · exact Nat.le_of_ble_eq_true rfl
  · exact h.elim
theorem hv_X8_at_ : ∀ As w P, T_X8_at_ As w P → ∃ (k : Nat) (r : List Value) (fs : List Nat), As = .ref k :: r ∧ ww_sh[k]? = some (.inr (8, fs)) := by
  intro As w P h
  unfold T_X8_at_ at h
  split at h
  · exact ⟨_, _, _, rfl, rfl⟩
  · exact h.elim
set_option maxRecDepth 100000 in
theorem M_X8_at_ (l : Launch) : qq_M l ww_T ww_N vwCl ww_sh ww_ro ww_zs yX8_at_ cX8_at_ 3 (some .int) (ww_rm 1) T_X8_at_ := by
  refine qq_mk (host := RX7) (is := ki_X8_at_) (cs := cs_X8_at_) (by decide) ww_k1 wl_X8 ww_so ww_so2 kc_X8_at_ kv_X8_at_ kg_X8_at_ ?_ ha_X8_at_ bd_X8_at_
  intro k i q hi hq
  match k, hi, hq with
  | 0, hi, hq => cases hi; cases hq; exact fun p e s m args below meth c D tys tC ad Q pc X hdg => qq_cS X ww_gd (M_X8_in l) kf_X8_in.1 (Or.inl (ww_a5 (i := 76) (w := Cond.methodLink RX8 105 yX8_in) rfl rfl)) kf_X8_in.2.1 kf_X8_in.2.2 ⟨by decide, by decide, by decide +kernel⟩ rfl rfl ⟨by decide, by decide⟩ ⟨Nat.le_refl _, Nat.le_refl _⟩ hdg
  | n + 1, hi, hq => simp [cs_X8_at_] at hq
abbrev cs_X8_count : List (Nat × qq_t) := []
def T_X8_count : qq_t := fun As w P => match As with
  | [.ref 8, .int a0] => qq_go ww_sh ww_ro cs_X8_count (qq_at 83 kd_X8_count) (some .int) (fun _ => false) P qq_no 28 0 (lv_args 0 [.ref 8, .int a0]) [] w
  | _ => False
theorem bd_X8_count : ∀ As w P K, qq_Sat ww_sh ww_ro cs_X8_count (qq_at 83 kd_X8_count) (some .int) P K → T_X8_count As w P → K 0 (lv_args 0 As) [] w := by
  intro As w P K S h
  unfold T_X8_count at h
  split at h
  · exact qq_go_all S h
  · exact h.elim
theorem ha_X8_count : ∀ As w P, T_X8_count As w P → qq_wd As ≤ 2 := by
  intro As w P h
  unfold T_X8_count at h
  split at h
  · exact Nat.le_of_ble_eq_true rfl
  · exact h.elim
theorem hv_X8_count : ∀ As w P, T_X8_count As w P → ∃ (k : Nat) (r : List Value) (fs : List Nat), As = .ref k :: r ∧ ww_sh[k]? = some (.inr (8, fs)) := by
  intro As w P h
  unfold T_X8_count at h
  split at h
  · exact ⟨_, _, _, rfl, rfl⟩
  · exact h.elim
set_option maxRecDepth 100000 in
theorem M_X8_count (l : Launch) : qq_M l ww_T ww_N vwCl ww_sh ww_ro ww_zs yX8_count cX8_count 2 (some .int) (ww_rm 0) T_X8_count := by
  refine qq_mk (host := RX7) (is := ki_X8_count) (cs := cs_X8_count) (by decide) ww_k1 wl_X8 ww_so ww_so2 kc_X8_count kv_X8_count kg_X8_count ?_ ha_X8_count bd_X8_count
  intro k i q hi hq
  simp [cs_X8_count] at hq
abbrev cs_X8_finding : List (Nat × qq_t) := []
def T_X8_finding : qq_t := fun As w P => match As with
  | [.ref 8] => qq_go ww_sh ww_ro cs_X8_finding (qq_at 5 kd_X8_finding) (some .int) (fun _ => false) P qq_no 4 0 (lv_args 0 [.ref 8]) [] w
  | _ => False
theorem bd_X8_finding : ∀ As w P K, qq_Sat ww_sh ww_ro cs_X8_finding (qq_at 5 kd_X8_finding) (some .int) P K → T_X8_finding As w P → K 0 (lv_args 0 As) [] w := by
  intro As w P K S h
  unfold T_X8_finding at h
  split at h
  · exact qq_go_all S h
  · exact h.elim
theorem ha_X8_finding : ∀ As w P, T_X8_finding As w P → qq_wd As ≤ 1 := by
  intro As w P h
  unfold T_X8_finding at h
  split at h
  · exact Nat.le_of_ble_eq_true rfl
  · exact h.elim
theorem hv_X8_finding : ∀ As w P, T_X8_finding As w P → ∃ (k : Nat) (r : List Value) (fs : List Nat), As = .ref k :: r ∧ ww_sh[k]? = some (.inr (8, fs)) := by
  intro As w P h
  unfold T_X8_finding at h
  split at h
  · exact ⟨_, _, _, rfl, rfl⟩
  · exact h.elim
set_option maxRecDepth 100000 in
theorem M_X8_finding (l : Launch) : qq_M l ww_T ww_N vwCl ww_sh ww_ro ww_zs yX8_finding cX8_finding 1 (some .int) (ww_rm 0) T_X8_finding := by
  refine qq_mk (host := RX7) (is := ki_X8_finding) (cs := cs_X8_finding) (by decide) ww_k1 wl_X8 ww_so ww_so2 kc_X8_finding kv_X8_finding kg_X8_finding ?_ ha_X8_finding bd_X8_finding
  intro k i q hi hq
  simp [cs_X8_finding] at hq
abbrev cs_X8_findings : List (Nat × qq_t) := [(3, T_X8_in)]
def T_X8_findings : qq_t := fun As w P => match As with
  | [.ref 8, .int a0] => qq_go ww_sh ww_ro cs_X8_findings (qq_at 20 kd_X8_findings) (some .int) (fun _ => false) P qq_no 13 0 (lv_args 0 [.ref 8, .int a0]) [] w
  | _ => False
theorem bd_X8_findings : ∀ As w P K, qq_Sat ww_sh ww_ro cs_X8_findings (qq_at 20 kd_X8_findings) (some .int) P K → T_X8_findings As w P → K 0 (lv_args 0 As) [] w := by
  intro As w P K S h
  unfold T_X8_findings at h
  split at h
  · exact qq_go_all S h
  · exact h.elim
theorem ha_X8_findings : ∀ As w P, T_X8_findings As w P → qq_wd As ≤ 2 := by
  intro As w P h
  unfold T_X8_findings at h
  split at h
  · exact Nat.le_of_ble_eq_true rfl
  · exact h.elim
theorem hv_X8_findings : ∀ As w P, T_X8_findings As w P → ∃ (k : Nat) (r : List Value) (fs : List Nat), As = .ref k :: r ∧ ww_sh[k]? = some (.inr (8, fs)) := by
  intro As w P h
  unfold T_X8_findings at h
  split at h
  · exact ⟨_, _, _, rfl, rfl⟩
  · exact h.elim
set_option maxRecDepth 100000 in
theorem M_X8_findings (l : Launch) : qq_M l ww_T ww_N vwCl ww_sh ww_ro ww_zs yX8_findings cX8_findings 2 (some .int) (ww_rm 1) T_X8_findings := by
  refine qq_mk (host := RX7) (is := ki_X8_findings) (cs := cs_X8_findings) (by decide) ww_k1 wl_X8 ww_so ww_so2 kc_X8_findings kv_X8_findings kg_X8_findings ?_ ha_X8_findings bd_X8_findings
  intro k i q hi hq
  match k, hi, hq with
  | 0, hi, hq => cases hi; cases hq; exact fun p e s m args below meth c D tys tC ad Q pc X hdg => qq_cS X ww_gd (M_X8_in l) kf_X8_in.1 (Or.inl (ww_a5 (i := 76) (w := Cond.methodLink RX8 105 yX8_in) rfl rfl)) kf_X8_in.2.1 kf_X8_in.2.2 ⟨by decide, by decide, by decide +kernel⟩ rfl rfl ⟨by decide, by decide⟩ ⟨Nat.le_refl _, Nat.le_refl _⟩ hdg
  | n + 1, hi, hq => simp [cs_X8_findings] at hq
abbrev cs_J13_bitCount_95d88 : List (Nat × qq_t) := []
def T_J13_bitCount_95d88 : qq_t := fun As w P => match As with
  | [.long a0] => qq_go ww_sh ww_ro cs_J13_bitCount_95d88 (qq_at 61 kd_J13_bitCount_95d88) (some .int) (fun _ => false) P qq_no 50 0 (lv_args 0 [.long a0]) [] w
  | _ => False
theorem bd_J13_bitCount_95d88 : ∀ As w P K, qq_Sat ww_sh ww_ro cs_J13_bitCount_95d88 (qq_at 61 kd_J13_bitCount_95d88) (some .int) P K → T_J13_bitCount_95d88 As w P → K 0 (lv_args 0 As) [] w := by
  intro As w P K S h
  unfold T_J13_bitCount_95d88 at h
  split at h
  · exact qq_go_all S h
  · exact h.elim
theorem ha_J13_bitCount_95d88 : ∀ As w P, T_J13_bitCount_95d88 As w P → qq_wd As ≤ 2 := by
  intro As w P h
  unfold T_J13_bitCount_95d88 at h
  split at h
  · exact Nat.le_of_ble_eq_true rfl
  · exact h.elim
set_option maxRecDepth 100000 in
theorem M_J13_bitCount_95d88 (l : Launch) : qq_M l ww_T ww_N vwCl ww_sh ww_ro ww_zs yJ13_bitCount_95d88 cJ13_bitCount_95d88 2 (some .int) (ww_rm 0) T_J13_bitCount_95d88 := by
  refine qq_mk (host := RX7) (is := ki_J13_bitCount_95d88) (cs := cs_J13_bitCount_95d88) (by decide) ww_k1 ww_fl0 ww_so ww_so2 kc_J13_bitCount_95d88 kv_J13_bitCount_95d88 kg_J13_bitCount_95d88 ?_ ha_J13_bitCount_95d88 bd_J13_bitCount_95d88
  intro k i q hi hq
  simp [cs_J13_bitCount_95d88] at hq
abbrev cs_J7_rangeCheck_23922 : List (Nat × qq_t) := []
def T_J7_rangeCheck_23922 : qq_t := fun As w P => match As with
  | [.int a0, .int a1, .int a2] => qq_go ww_sh ww_ro cs_J7_rangeCheck_23922 (qq_at 74 kd_J7_rangeCheck_23922) none (fun _ => false) P qq_no 38 0 (lv_args 0 [.int a0, .int a1, .int a2]) [] w
  | _ => False
theorem bd_J7_rangeCheck_23922 : ∀ As w P K, qq_Sat ww_sh ww_ro cs_J7_rangeCheck_23922 (qq_at 74 kd_J7_rangeCheck_23922) none P K → T_J7_rangeCheck_23922 As w P → K 0 (lv_args 0 As) [] w := by
  intro As w P K S h
  unfold T_J7_rangeCheck_23922 at h
  split at h
  · exact qq_go_all S h
  · exact h.elim
theorem ha_J7_rangeCheck_23922 : ∀ As w P, T_J7_rangeCheck_23922 As w P → qq_wd As ≤ 3 := by
  intro As w P h
  unfold T_J7_rangeCheck_23922 at h
  split at h
  · exact Nat.le_of_ble_eq_true rfl
  · exact h.elim
set_option maxRecDepth 100000 in
theorem M_J7_rangeCheck_23922 (l : Launch) : qq_M l ww_T ww_N vwCl ww_sh ww_ro ww_zs yJ7_rangeCheck_23922 cJ7_rangeCheck_23922 3 none (ww_rm 0) T_J7_rangeCheck_23922 := by
  refine qq_mk (host := RX7) (is := ki_J7_rangeCheck_23922) (cs := cs_J7_rangeCheck_23922) (by decide) ww_k1 ww_fl0 ww_so ww_so2 kc_J7_rangeCheck_23922 kv_J7_rangeCheck_23922 kg_J7_rangeCheck_23922 ?_ ha_J7_rangeCheck_23922 bd_J7_rangeCheck_23922
  intro k i q hi hq
  simp [cs_J7_rangeCheck_23922] at hq
abbrev cs_X1_beginning : List (Nat × qq_t) := [(3, T_X3_localsFrom)]
def T_X1_beginning : qq_t := fun As w P => match As with
  | [.ref 2] => qq_go ww_sh ww_ro cs_X1_beginning (qq_at 40 kd_X1_beginning) (some .int) (fun _ => false) P qq_no 24 0 (lv_args 0 [.ref 2]) [] w
  | _ => False
theorem bd_X1_beginning : ∀ As w P K, qq_Sat ww_sh ww_ro cs_X1_beginning (qq_at 40 kd_X1_beginning) (some .int) P K → T_X1_beginning As w P → K 0 (lv_args 0 As) [] w := by
  intro As w P K S h
  unfold T_X1_beginning at h
  split at h
  · exact qq_go_all S h
  · exact h.elim
theorem ha_X1_beginning : ∀ As w P, T_X1_beginning As w P → qq_wd As ≤ 1 := by
  intro As w P h
  unfold T_X1_beginning at h
  split at h
  · exact Nat.le_of_ble_eq_true rfl
  · exact h.elim
theorem hv_X1_beginning : ∀ As w P, T_X1_beginning As w P → ∃ (k : Nat) (r : List Value) (fs : List Nat), As = .ref k :: r ∧ ww_sh[k]? = some (.inr (1, fs)) := by
  intro As w P h
  unfold T_X1_beginning at h
  split at h
  · exact ⟨_, _, _, rfl, rfl⟩
  · exact h.elim
set_option maxRecDepth 100000 in
theorem M_X1_beginning (l : Launch) : qq_M l ww_T ww_N vwCl ww_sh ww_ro ww_zs yX1_beginning cX1_beginning 1 (some .int) (ww_rm 1) T_X1_beginning := by
  refine qq_mk (host := RX7) (is := ki_X1_beginning) (cs := cs_X1_beginning) (by decide) ww_k1 wl_X1 ww_so ww_so2 kc_X1_beginning kv_X1_beginning kg_X1_beginning ?_ ha_X1_beginning bd_X1_beginning
  intro k i q hi hq
  match k, hi, hq with
  | 0, hi, hq => cases hi; cases hq; exact fun p e s m args below meth c D tys tC ad Q pc X hdg => qq_cV (ci := 3) X ww_gd (M_X3_localsFrom l) kf_X3_localsFrom.1 (Or.inl (ww_a3 (i := 22) (w := Cond.methodLink RX1 36 yX3_localsFrom) rfl rfl)) kf_X3_localsFrom.2.1 kf_X3_localsFrom.2.2.1 kf_X3_localsFrom.2.2.2 ⟨by decide, by decide, by decide +kernel⟩ rfl rfl rfl ⟨by decide, by decide⟩ ⟨Nat.le_refl _, Nat.le_refl _⟩ hv_X3_localsFrom hdg
  | n + 1, hi, hq => simp [cs_X1_beginning] at hq
abbrev cs_X3_hasProcedure : List (Nat × qq_t) := [(2, T_X7_isWithin)]
def T_X3_hasProcedure : qq_t := fun As w P => match As with
  | [.ref 1, .int a0] => qq_go ww_sh ww_ro cs_X3_hasProcedure (qq_at 9 kd_X3_hasProcedure) (some .boolean) (fun _ => false) P qq_no 6 0 (lv_args 0 [.ref 1, .int a0]) [] w
  | _ => False
theorem bd_X3_hasProcedure : ∀ As w P K, qq_Sat ww_sh ww_ro cs_X3_hasProcedure (qq_at 9 kd_X3_hasProcedure) (some .boolean) P K → T_X3_hasProcedure As w P → K 0 (lv_args 0 As) [] w := by
  intro As w P K S h
  unfold T_X3_hasProcedure at h
  split at h
  · exact qq_go_all S h
  · exact h.elim
theorem ha_X3_hasProcedure : ∀ As w P, T_X3_hasProcedure As w P → qq_wd As ≤ 2 := by
  intro As w P h
  unfold T_X3_hasProcedure at h
  split at h
  · exact Nat.le_of_ble_eq_true rfl
  · exact h.elim
theorem hv_X3_hasProcedure : ∀ As w P, T_X3_hasProcedure As w P → ∃ (k : Nat) (r : List Value) (fs : List Nat), As = .ref k :: r ∧ ww_sh[k]? = some (.inr (3, fs)) := by
  intro As w P h
  unfold T_X3_hasProcedure at h
  split at h
  · exact ⟨_, _, _, rfl, rfl⟩
  · exact h.elim
set_option maxRecDepth 100000 in
theorem M_X3_hasProcedure (l : Launch) : qq_M l ww_T ww_N vwCl ww_sh ww_ro ww_zs yX3_hasProcedure cX3_hasProcedure 2 (some .boolean) (ww_rm 1) T_X3_hasProcedure := by
  refine qq_mk (host := RX7) (is := ki_X3_hasProcedure) (cs := cs_X3_hasProcedure) (by decide) ww_k1 wl_X3 ww_so ww_so2 kc_X3_hasProcedure kv_X3_hasProcedure kg_X3_hasProcedure ?_ ha_X3_hasProcedure bd_X3_hasProcedure
  intro k i q hi hq
  match k, hi, hq with
  | 0, hi, hq => cases hi; cases hq; exact fun p e s m args below meth c D tys tC ad Q pc X hdg => qq_cS X ww_gd (M_X7_isWithin l) kf_X7_isWithin.1 (Or.inr ⟨RX7, ww_n2 (i := 92) (w := Cond.methodLinkNest RX3 40 yX7_isWithin RX7) rfl rfl⟩) kf_X7_isWithin.2.1 kf_X7_isWithin.2.2 ⟨by decide, by decide, by decide +kernel⟩ rfl rfl ⟨by decide, by decide⟩ ⟨Nat.le_refl _, Nat.le_refl _⟩ hdg
  | n + 1, hi, hq => simp [cs_X3_hasProcedure] at hq
abbrev cs_X3_hasNode : List (Nat × qq_t) := [(2, T_X7_isWithin)]
def T_X3_hasNode : qq_t := fun As w P => match As with
  | [.ref 1, .int a0] => qq_go ww_sh ww_ro cs_X3_hasNode (qq_at 9 kd_X3_hasNode) (some .boolean) (fun _ => false) P qq_no 6 0 (lv_args 0 [.ref 1, .int a0]) [] w
  | _ => False
theorem bd_X3_hasNode : ∀ As w P K, qq_Sat ww_sh ww_ro cs_X3_hasNode (qq_at 9 kd_X3_hasNode) (some .boolean) P K → T_X3_hasNode As w P → K 0 (lv_args 0 As) [] w := by
  intro As w P K S h
  unfold T_X3_hasNode at h
  split at h
  · exact qq_go_all S h
  · exact h.elim
theorem ha_X3_hasNode : ∀ As w P, T_X3_hasNode As w P → qq_wd As ≤ 2 := by
  intro As w P h
  unfold T_X3_hasNode at h
  split at h
  · exact Nat.le_of_ble_eq_true rfl
  · exact h.elim
theorem hv_X3_hasNode : ∀ As w P, T_X3_hasNode As w P → ∃ (k : Nat) (r : List Value) (fs : List Nat), As = .ref k :: r ∧ ww_sh[k]? = some (.inr (3, fs)) := by
  intro As w P h
  unfold T_X3_hasNode at h
  split at h
  · exact ⟨_, _, _, rfl, rfl⟩
  · exact h.elim
set_option maxRecDepth 100000 in
theorem M_X3_hasNode (l : Launch) : qq_M l ww_T ww_N vwCl ww_sh ww_ro ww_zs yX3_hasNode cX3_hasNode 2 (some .boolean) (ww_rm 1) T_X3_hasNode := by
  refine qq_mk (host := RX7) (is := ki_X3_hasNode) (cs := cs_X3_hasNode) (by decide) ww_k1 wl_X3 ww_so ww_so2 kc_X3_hasNode kv_X3_hasNode kg_X3_hasNode ?_ ha_X3_hasNode bd_X3_hasNode
  intro k i q hi hq
  match k, hi, hq with
  | 0, hi, hq => cases hi; cases hq; exact fun p e s m args below meth c D tys tC ad Q pc X hdg => qq_cS X ww_gd (M_X7_isWithin l) kf_X7_isWithin.1 (Or.inr ⟨RX7, ww_n2 (i := 92) (w := Cond.methodLinkNest RX3 40 yX7_isWithin RX7) rfl rfl⟩) kf_X7_isWithin.2.1 kf_X7_isWithin.2.2 ⟨by decide, by decide, by decide +kernel⟩ rfl rfl ⟨by decide, by decide⟩ ⟨Nat.le_refl _, Nat.le_refl _⟩ hdg
  | n + 1, hi, hq => simp [cs_X3_hasNode] at hq
abbrev cs_X3_hasState : List (Nat × qq_t) := [(2, T_X7_isWithin)]
def T_X3_hasState : qq_t := fun As w P => match As with
  | [.ref 1, .int a0, .int a1] => qq_go ww_sh ww_ro cs_X3_hasState (qq_at 26 kd_X3_hasState) (some .boolean) (fun _ => false) P qq_no 14 0 (lv_args 0 [.ref 1, .int a0, .int a1]) [] w
  | _ => False
theorem bd_X3_hasState : ∀ As w P K, qq_Sat ww_sh ww_ro cs_X3_hasState (qq_at 26 kd_X3_hasState) (some .boolean) P K → T_X3_hasState As w P → K 0 (lv_args 0 As) [] w := by
  intro As w P K S h
  unfold T_X3_hasState at h
  split at h
  · exact qq_go_all S h
  · exact h.elim
theorem ha_X3_hasState : ∀ As w P, T_X3_hasState As w P → qq_wd As ≤ 3 := by
  intro As w P h
  unfold T_X3_hasState at h
  split at h
  · exact Nat.le_of_ble_eq_true rfl
  · exact h.elim
theorem hv_X3_hasState : ∀ As w P, T_X3_hasState As w P → ∃ (k : Nat) (r : List Value) (fs : List Nat), As = .ref k :: r ∧ ww_sh[k]? = some (.inr (3, fs)) := by
  intro As w P h
  unfold T_X3_hasState at h
  split at h
  · exact ⟨_, _, _, rfl, rfl⟩
  · exact h.elim
set_option maxRecDepth 100000 in
theorem M_X3_hasState (l : Launch) : qq_M l ww_T ww_N vwCl ww_sh ww_ro ww_zs yX3_hasState cX3_hasState 3 (some .boolean) (ww_rm 1) T_X3_hasState := by
  refine qq_mk (host := RX7) (is := ki_X3_hasState) (cs := cs_X3_hasState) (by decide) ww_k1 wl_X3 ww_so ww_so2 kc_X3_hasState kv_X3_hasState kg_X3_hasState ?_ ha_X3_hasState bd_X3_hasState
  intro k i q hi hq
  match k, hi, hq with
  | 0, hi, hq => cases hi; cases hq; exact fun p e s m args below meth c D tys tC ad Q pc X hdg => qq_cS X ww_gd (M_X7_isWithin l) kf_X7_isWithin.1 (Or.inr ⟨RX7, ww_n2 (i := 92) (w := Cond.methodLinkNest RX3 40 yX7_isWithin RX7) rfl rfl⟩) kf_X7_isWithin.2.1 kf_X7_isWithin.2.2 ⟨by decide, by decide, by decide +kernel⟩ rfl rfl ⟨by decide, by decide⟩ ⟨Nat.le_refl _, Nat.le_refl _⟩ hdg
  | n + 1, hi, hq => simp [cs_X3_hasState] at hq
abbrev cs_X3_hasPart : List (Nat × qq_t) := [(2, T_X3_isCall)]
def T_X3_hasPart : qq_t := fun As w P => match As with
  | [.ref 1, .int a0, .int a1] => qq_go ww_sh ww_ro cs_X3_hasPart (qq_at 18 kd_X3_hasPart) (some .boolean) (fun _ => false) P qq_no 11 0 (lv_args 0 [.ref 1, .int a0, .int a1]) [] w
  | _ => False
theorem bd_X3_hasPart : ∀ As w P K, qq_Sat ww_sh ww_ro cs_X3_hasPart (qq_at 18 kd_X3_hasPart) (some .boolean) P K → T_X3_hasPart As w P → K 0 (lv_args 0 As) [] w := by
  intro As w P K S h
  unfold T_X3_hasPart at h
  split at h
  · exact qq_go_all S h
  · exact h.elim
theorem ha_X3_hasPart : ∀ As w P, T_X3_hasPart As w P → qq_wd As ≤ 3 := by
  intro As w P h
  unfold T_X3_hasPart at h
  split at h
  · exact Nat.le_of_ble_eq_true rfl
  · exact h.elim
theorem hv_X3_hasPart : ∀ As w P, T_X3_hasPart As w P → ∃ (k : Nat) (r : List Value) (fs : List Nat), As = .ref k :: r ∧ ww_sh[k]? = some (.inr (3, fs)) := by
  intro As w P h
  unfold T_X3_hasPart at h
  split at h
  · exact ⟨_, _, _, rfl, rfl⟩
  · exact h.elim
set_option maxRecDepth 100000 in
theorem M_X3_hasPart (l : Launch) : qq_M l ww_T ww_N vwCl ww_sh ww_ro ww_zs yX3_hasPart cX3_hasPart 3 (some .boolean) (ww_rm 2) T_X3_hasPart := by
  refine qq_mk (host := RX7) (is := ki_X3_hasPart) (cs := cs_X3_hasPart) (by decide) ww_k1 wl_X3 ww_so ww_so2 kc_X3_hasPart kv_X3_hasPart kg_X3_hasPart ?_ ha_X3_hasPart bd_X3_hasPart
  intro k i q hi hq
  match k, hi, hq with
  | 0, hi, hq => cases hi; cases hq; exact fun p e s m args below meth c D tys tC ad Q pc X hdg => qq_cV (ci := 3) X ww_gd (M_X3_isCall l) kf_X3_isCall.1 (Or.inl (ww_a2 (i := 204) (w := Cond.methodLink RX3 54 yX3_isCall) rfl rfl)) kf_X3_isCall.2.1 kf_X3_isCall.2.2.1 kf_X3_isCall.2.2.2 ⟨by decide, by decide, by decide +kernel⟩ rfl rfl rfl ⟨by decide, by decide⟩ ⟨Nat.le_refl _, Nat.le_refl _⟩ hv_X3_isCall hdg
  | n + 1, hi, hq => simp [cs_X3_hasPart] at hq
abbrev cs_X3_hasPlaces : List (Nat × qq_t) := [(3, T_X3_of)]
def T_X3_hasPlaces : qq_t := fun As w P => match As with
  | [.ref 1, .int a0, .int a1, .int a2] => qq_go ww_sh ww_ro cs_X3_hasPlaces (qq_at 37 kd_X3_hasPlaces) (some .boolean) (fun _ => false) P qq_no 22 0 (lv_args 0 [.ref 1, .int a0, .int a1, .int a2]) [] w
  | _ => False
theorem bd_X3_hasPlaces : ∀ As w P K, qq_Sat ww_sh ww_ro cs_X3_hasPlaces (qq_at 37 kd_X3_hasPlaces) (some .boolean) P K → T_X3_hasPlaces As w P → K 0 (lv_args 0 As) [] w := by
  intro As w P K S h
  unfold T_X3_hasPlaces at h
  split at h
  · exact qq_go_all S h
  · exact h.elim
theorem ha_X3_hasPlaces : ∀ As w P, T_X3_hasPlaces As w P → qq_wd As ≤ 5 := by
  intro As w P h
  unfold T_X3_hasPlaces at h
  split at h
  · exact Nat.le_of_ble_eq_true rfl
  · exact h.elim
theorem hv_X3_hasPlaces : ∀ As w P, T_X3_hasPlaces As w P → ∃ (k : Nat) (r : List Value) (fs : List Nat), As = .ref k :: r ∧ ww_sh[k]? = some (.inr (3, fs)) := by
  intro As w P h
  unfold T_X3_hasPlaces at h
  split at h
  · exact ⟨_, _, _, rfl, rfl⟩
  · exact h.elim
set_option maxRecDepth 100000 in
theorem M_X3_hasPlaces (l : Launch) : qq_M l ww_T ww_N vwCl ww_sh ww_ro ww_zs yX3_hasPlaces cX3_hasPlaces 5 (some .boolean) (ww_rm 1) T_X3_hasPlaces := by
  refine qq_mk (host := RX7) (is := ki_X3_hasPlaces) (cs := cs_X3_hasPlaces) (by decide) ww_k1 wl_X3 ww_so ww_so2 kc_X3_hasPlaces kv_X3_hasPlaces kg_X3_hasPlaces ?_ ha_X3_hasPlaces bd_X3_hasPlaces
  intro k i q hi hq
  match k, hi, hq with
  | 0, hi, hq => cases hi; cases hq; exact fun p e s m args below meth c D tys tC ad Q pc X hdg => qq_cV (ci := 3) X ww_gd (M_X3_of l) kf_X3_of.1 (Or.inl (ww_a2 (i := 144) (w := Cond.methodLink RX3 58 yX3_of) rfl rfl)) kf_X3_of.2.1 kf_X3_of.2.2.1 kf_X3_of.2.2.2 ⟨by decide, by decide, by decide +kernel⟩ rfl rfl rfl ⟨by decide, by decide⟩ ⟨Nat.le_refl _, Nat.le_refl _⟩ hv_X3_of hdg
  | n + 1, hi, hq => simp [cs_X3_hasPlaces] at hq
abbrev cs_X7_ends : List (Nat × qq_t) := [(2, T_X3_hasProcedure), (2, T_X3_leaveOf)]
def T_X7_ends : qq_t := fun As w P => match As with
  | [.ref 0, .int a0, .int a1] => qq_go ww_sh ww_ro cs_X7_ends (qq_at 38 kd_X7_ends) (some .int) (fun _ => false) P qq_no 21 0 (lv_args 0 [.ref 0, .int a0, .int a1]) [] w
  | _ => False
theorem bd_X7_ends : ∀ As w P K, qq_Sat ww_sh ww_ro cs_X7_ends (qq_at 38 kd_X7_ends) (some .int) P K → T_X7_ends As w P → K 0 (lv_args 0 As) [] w := by
  intro As w P K S h
  unfold T_X7_ends at h
  split at h
  · exact qq_go_all S h
  · exact h.elim
theorem ha_X7_ends : ∀ As w P, T_X7_ends As w P → qq_wd As ≤ 3 := by
  intro As w P h
  unfold T_X7_ends at h
  split at h
  · exact Nat.le_of_ble_eq_true rfl
  · exact h.elim
theorem hv_X7_ends : ∀ As w P, T_X7_ends As w P → ∃ (k : Nat) (r : List Value) (fs : List Nat), As = .ref k :: r ∧ ww_sh[k]? = some (.inr (7, fs)) := by
  intro As w P h
  unfold T_X7_ends at h
  split at h
  · exact ⟨_, _, _, rfl, rfl⟩
  · exact h.elim
set_option maxRecDepth 100000 in
theorem M_X7_ends (l : Launch) : qq_M l ww_T ww_N vwCl ww_sh ww_ro ww_zs yX7_ends cX7_ends 3 (some .int) (ww_rm 2) T_X7_ends := by
  refine qq_mk (host := RX7) (is := ki_X7_ends) (cs := cs_X7_ends) (by decide) ww_k1 wl_X7 ww_so ww_so2 kc_X7_ends kv_X7_ends kg_X7_ends ?_ ha_X7_ends bd_X7_ends
  intro k i q hi hq
  match k, hi, hq with
  | 0, hi, hq => cases hi; cases hq; exact fun p e s m args below meth c D tys tC ad Q pc X hdg => qq_cV (ci := 3) X ww_gd (M_X3_hasProcedure l) kf_X3_hasProcedure.1 (Or.inl (ww_a2 (i := 88) (w := Cond.methodLink RX7 83 yX3_hasProcedure) rfl rfl)) kf_X3_hasProcedure.2.1 kf_X3_hasProcedure.2.2.1 kf_X3_hasProcedure.2.2.2 ⟨by decide, by decide, by decide +kernel⟩ rfl rfl rfl ⟨by decide, by decide⟩ ⟨Nat.le_refl _, Nat.le_refl _⟩ hv_X3_hasProcedure hdg
  | 1, hi, hq => cases hi; cases hq; exact fun p e s m args below meth c D tys tC ad Q pc X hdg => qq_cV (ci := 3) X ww_gd (M_X3_leaveOf l) kf_X3_leaveOf.1 (Or.inl (ww_a2 (i := 93) (w := Cond.methodLink RX7 86 yX3_leaveOf) rfl rfl)) kf_X3_leaveOf.2.1 kf_X3_leaveOf.2.2.1 kf_X3_leaveOf.2.2.2 ⟨by decide, by decide, by decide +kernel⟩ rfl rfl rfl ⟨by decide, by decide⟩ ⟨Nat.le_refl _, Nat.le_refl _⟩ hv_X3_leaveOf hdg
  | n + 2, hi, hq => simp [cs_X7_ends] at hq
abbrev cs_X7_outcome : List (Nat × qq_t) := [(2, T_X3_hasProcedure), (3, T_X3_hasVariable), (1, T_X7_endSolving)]
def T_X7_outcome : qq_t := fun As w P => match As with
  | [.ref 0, .int a0, .int a1] => qq_go ww_sh ww_ro cs_X7_outcome (qq_at 64 kd_X7_outcome) (some .int) (fun _ => false) P qq_no 38 0 (lv_args 0 [.ref 0, .int a0, .int a1]) [] w
  | _ => False
theorem bd_X7_outcome : ∀ As w P K, qq_Sat ww_sh ww_ro cs_X7_outcome (qq_at 64 kd_X7_outcome) (some .int) P K → T_X7_outcome As w P → K 0 (lv_args 0 As) [] w := by
  intro As w P K S h
  unfold T_X7_outcome at h
  split at h
  · exact qq_go_all S h
  · exact h.elim
theorem ha_X7_outcome : ∀ As w P, T_X7_outcome As w P → qq_wd As ≤ 4 := by
  intro As w P h
  unfold T_X7_outcome at h
  split at h
  · exact Nat.le_of_ble_eq_true rfl
  · exact h.elim
theorem hv_X7_outcome : ∀ As w P, T_X7_outcome As w P → ∃ (k : Nat) (r : List Value) (fs : List Nat), As = .ref k :: r ∧ ww_sh[k]? = some (.inr (7, fs)) := by
  intro As w P h
  unfold T_X7_outcome at h
  split at h
  · exact ⟨_, _, _, rfl, rfl⟩
  · exact h.elim
set_option maxRecDepth 100000 in
theorem M_X7_outcome (l : Launch) : qq_M l ww_T ww_N vwCl ww_sh ww_ro ww_zs yX7_outcome cX7_outcome 4 (some .int) (ww_rm 2) T_X7_outcome := by
  refine qq_mk (host := RX7) (is := ki_X7_outcome) (cs := cs_X7_outcome) (by decide) ww_k1 wl_X7 ww_so ww_so2 kc_X7_outcome kv_X7_outcome kg_X7_outcome ?_ ha_X7_outcome bd_X7_outcome
  intro k i q hi hq
  match k, hi, hq with
  | 0, hi, hq => cases hi; cases hq; exact fun p e s m args below meth c D tys tC ad Q pc X hdg => qq_cV (ci := 3) X ww_gd (M_X3_hasProcedure l) kf_X3_hasProcedure.1 (Or.inl (ww_a2 (i := 88) (w := Cond.methodLink RX7 83 yX3_hasProcedure) rfl rfl)) kf_X3_hasProcedure.2.1 kf_X3_hasProcedure.2.2.1 kf_X3_hasProcedure.2.2.2 ⟨by decide, by decide, by decide +kernel⟩ rfl rfl rfl ⟨by decide, by decide⟩ ⟨Nat.le_refl _, Nat.le_refl _⟩ hv_X3_hasProcedure hdg
  | 1, hi, hq => cases hi; cases hq; exact fun p e s m args below meth c D tys tC ad Q pc X hdg => qq_cV (ci := 3) X ww_gd (M_X3_hasVariable l) kf_X3_hasVariable.1 (Or.inl (ww_a2 (i := 101) (w := Cond.methodLink RX7 94 yX3_hasVariable) rfl rfl)) kf_X3_hasVariable.2.1 kf_X3_hasVariable.2.2.1 kf_X3_hasVariable.2.2.2 ⟨by decide, by decide, by decide +kernel⟩ rfl rfl rfl ⟨by decide, by decide⟩ ⟨Nat.le_refl _, Nat.le_refl _⟩ hv_X3_hasVariable hdg
  | 2, hi, hq => cases hi; cases hq; exact fun p e s m args below meth c D tys tC ad Q pc X hdg => qq_cV (ci := 7) X ww_gd (M_X7_endSolving l) kf_X7_endSolving.1 (Or.inl (ww_a2 (i := 60) (w := Cond.methodLink RX7 77 yX7_endSolving) rfl rfl)) kf_X7_endSolving.2.1 kf_X7_endSolving.2.2.1 kf_X7_endSolving.2.2.2 ⟨by decide, by decide, by decide +kernel⟩ rfl rfl rfl ⟨by decide, by decide⟩ ⟨Nat.le_refl _, Nat.le_refl _⟩ hv_X7_endSolving hdg
  | n + 3, hi, hq => simp [cs_X7_outcome] at hq
abbrev cs_X7_argument : List (Nat × qq_t) := [(2, T_X3_hasNode), (3, T_X3_of), (3, T_X3_hasVariable), (2, T_X3_isCall), (2, T_X0_answer), (2, T_X7_isWithin), (1, T_X7_endSolving)]
def T_X7_argument : qq_t := fun As w P => match As with
  | [.ref 0, .int a0, .int a1, .int a2] => qq_go ww_sh ww_ro cs_X7_argument (qq_at 107 kd_X7_argument) (some .int) (fun _ => false) P qq_no 60 0 (lv_args 0 [.ref 0, .int a0, .int a1, .int a2]) [] w
  | _ => False
theorem bd_X7_argument : ∀ As w P K, qq_Sat ww_sh ww_ro cs_X7_argument (qq_at 107 kd_X7_argument) (some .int) P K → T_X7_argument As w P → K 0 (lv_args 0 As) [] w := by
  intro As w P K S h
  unfold T_X7_argument at h
  split at h
  · exact qq_go_all S h
  · exact h.elim
theorem ha_X7_argument : ∀ As w P, T_X7_argument As w P → qq_wd As ≤ 4 := by
  intro As w P h
  unfold T_X7_argument at h
  split at h
  · exact Nat.le_of_ble_eq_true rfl
  · exact h.elim
theorem hv_X7_argument : ∀ As w P, T_X7_argument As w P → ∃ (k : Nat) (r : List Value) (fs : List Nat), As = .ref k :: r ∧ ww_sh[k]? = some (.inr (7, fs)) := by
  intro As w P h
  unfold T_X7_argument at h
  split at h
  · exact ⟨_, _, _, rfl, rfl⟩
  · exact h.elim
set_option maxRecDepth 100000 in
theorem M_X7_argument (l : Launch) : qq_M l ww_T ww_N vwCl ww_sh ww_ro ww_zs yX7_argument cX7_argument 4 (some .int) (ww_rm 2) T_X7_argument := by
  refine qq_mk (host := RX7) (is := ki_X7_argument) (cs := cs_X7_argument) (by decide) ww_k1 wl_X7 ww_so ww_so2 kc_X7_argument kv_X7_argument kg_X7_argument ?_ ha_X7_argument bd_X7_argument
  intro k i q hi hq
  match k, hi, hq with
  | 0, hi, hq => cases hi; cases hq; exact fun p e s m args below meth c D tys tC ad Q pc X hdg => qq_cV (ci := 3) X ww_gd (M_X3_hasNode l) kf_X3_hasNode.1 (Or.inl (ww_a2 (i := 132) (w := Cond.methodLink RX7 117 yX3_hasNode) rfl rfl)) kf_X3_hasNode.2.1 kf_X3_hasNode.2.2.1 kf_X3_hasNode.2.2.2 ⟨by decide, by decide, by decide +kernel⟩ rfl rfl rfl ⟨by decide, by decide⟩ ⟨Nat.le_refl _, Nat.le_refl _⟩ hv_X3_hasNode hdg
  | 1, hi, hq => cases hi; cases hq; exact fun p e s m args below meth c D tys tC ad Q pc X hdg => qq_cV (ci := 3) X ww_gd (M_X3_of l) kf_X3_of.1 (Or.inl (ww_a2 (i := 136) (w := Cond.methodLink RX7 120 yX3_of) rfl rfl)) kf_X3_of.2.1 kf_X3_of.2.2.1 kf_X3_of.2.2.2 ⟨by decide, by decide, by decide +kernel⟩ rfl rfl rfl ⟨by decide, by decide⟩ ⟨Nat.le_refl _, Nat.le_refl _⟩ hv_X3_of hdg
  | 2, hi, hq => cases hi; cases hq; exact fun p e s m args below meth c D tys tC ad Q pc X hdg => qq_cV (ci := 3) X ww_gd (M_X3_hasVariable l) kf_X3_hasVariable.1 (Or.inl (ww_a2 (i := 101) (w := Cond.methodLink RX7 94 yX3_hasVariable) rfl rfl)) kf_X3_hasVariable.2.1 kf_X3_hasVariable.2.2.1 kf_X3_hasVariable.2.2.2 ⟨by decide, by decide, by decide +kernel⟩ rfl rfl rfl ⟨by decide, by decide⟩ ⟨Nat.le_refl _, Nat.le_refl _⟩ hv_X3_hasVariable hdg
  | 3, hi, hq => cases hi; cases hq; exact fun p e s m args below meth c D tys tC ad Q pc X hdg => qq_cV (ci := 3) X ww_gd (M_X3_isCall l) kf_X3_isCall.1 (Or.inl (ww_a2 (i := 140) (w := Cond.methodLink RX7 123 yX3_isCall) rfl rfl)) kf_X3_isCall.2.1 kf_X3_isCall.2.2.1 kf_X3_isCall.2.2.2 ⟨by decide, by decide, by decide +kernel⟩ rfl rfl rfl ⟨by decide, by decide⟩ ⟨Nat.le_refl _, Nat.le_refl _⟩ hv_X3_isCall hdg
  | 4, hi, hq => cases hi; cases hq; exact fun p e s m args below meth c D tys tC ad Q pc X hdg => qq_cV (ci := 0) X ww_gd (M_X0_answer l) kf_X0_answer.1 (Or.inl (ww_a2 (i := 120) (w := Cond.methodLink RX7 110 yX0_answer) rfl rfl)) kf_X0_answer.2.1 kf_X0_answer.2.2.1 kf_X0_answer.2.2.2 ⟨by decide, by decide, by decide +kernel⟩ rfl rfl rfl ⟨by decide, by decide⟩ ⟨Nat.le_refl _, Nat.le_refl _⟩ hv_X0_answer hdg
  | 5, hi, hq => cases hi; cases hq; exact fun p e s m args below meth c D tys tC ad Q pc X hdg => qq_cS X ww_gd (M_X7_isWithin l) kf_X7_isWithin.1 (Or.inl (ww_a2 (i := 50) (w := Cond.methodLink RX7 59 yX7_isWithin) rfl rfl)) kf_X7_isWithin.2.1 kf_X7_isWithin.2.2 ⟨by decide, by decide, by decide +kernel⟩ rfl rfl ⟨by decide, by decide⟩ ⟨Nat.le_refl _, Nat.le_refl _⟩ hdg
  | 6, hi, hq => cases hi; cases hq; exact fun p e s m args below meth c D tys tC ad Q pc X hdg => qq_cV (ci := 7) X ww_gd (M_X7_endSolving l) kf_X7_endSolving.1 (Or.inl (ww_a2 (i := 60) (w := Cond.methodLink RX7 77 yX7_endSolving) rfl rfl)) kf_X7_endSolving.2.1 kf_X7_endSolving.2.2.1 kf_X7_endSolving.2.2.2 ⟨by decide, by decide, by decide +kernel⟩ rfl rfl rfl ⟨by decide, by decide⟩ ⟨Nat.le_refl _, Nat.le_refl _⟩ hv_X7_endSolving hdg
  | n + 7, hi, hq => simp [cs_X7_argument] at hq
abbrev cs_X7_told : List (Nat × qq_t) := [(2, T_X3_hasNode), (2, T_X7_isWithin), (3, T_X3_of)]
def T_X7_told : qq_t := fun As w P => match As with
  | [.ref 0, .int a0, .int a1] => qq_go ww_sh ww_ro cs_X7_told (qq_at 32 kd_X7_told) (some .int) (fun _ => false) P qq_no 18 0 (lv_args 0 [.ref 0, .int a0, .int a1]) [] w
  | _ => False
theorem bd_X7_told : ∀ As w P K, qq_Sat ww_sh ww_ro cs_X7_told (qq_at 32 kd_X7_told) (some .int) P K → T_X7_told As w P → K 0 (lv_args 0 As) [] w := by
  intro As w P K S h
  unfold T_X7_told at h
  split at h
  · exact qq_go_all S h
  · exact h.elim
theorem ha_X7_told : ∀ As w P, T_X7_told As w P → qq_wd As ≤ 3 := by
  intro As w P h
  unfold T_X7_told at h
  split at h
  · exact Nat.le_of_ble_eq_true rfl
  · exact h.elim
theorem hv_X7_told : ∀ As w P, T_X7_told As w P → ∃ (k : Nat) (r : List Value) (fs : List Nat), As = .ref k :: r ∧ ww_sh[k]? = some (.inr (7, fs)) := by
  intro As w P h
  unfold T_X7_told at h
  split at h
  · exact ⟨_, _, _, rfl, rfl⟩
  · exact h.elim
set_option maxRecDepth 100000 in
theorem M_X7_told (l : Launch) : qq_M l ww_T ww_N vwCl ww_sh ww_ro ww_zs yX7_told cX7_told 3 (some .int) (ww_rm 2) T_X7_told := by
  refine qq_mk (host := RX7) (is := ki_X7_told) (cs := cs_X7_told) (by decide) ww_k1 wl_X7 ww_so ww_so2 kc_X7_told kv_X7_told kg_X7_told ?_ ha_X7_told bd_X7_told
  intro k i q hi hq
  match k, hi, hq with
  | 0, hi, hq => cases hi; cases hq; exact fun p e s m args below meth c D tys tC ad Q pc X hdg => qq_cV (ci := 3) X ww_gd (M_X3_hasNode l) kf_X3_hasNode.1 (Or.inl (ww_a2 (i := 132) (w := Cond.methodLink RX7 117 yX3_hasNode) rfl rfl)) kf_X3_hasNode.2.1 kf_X3_hasNode.2.2.1 kf_X3_hasNode.2.2.2 ⟨by decide, by decide, by decide +kernel⟩ rfl rfl rfl ⟨by decide, by decide⟩ ⟨Nat.le_refl _, Nat.le_refl _⟩ hv_X3_hasNode hdg
  | 1, hi, hq => cases hi; cases hq; exact fun p e s m args below meth c D tys tC ad Q pc X hdg => qq_cS X ww_gd (M_X7_isWithin l) kf_X7_isWithin.1 (Or.inl (ww_a2 (i := 50) (w := Cond.methodLink RX7 59 yX7_isWithin) rfl rfl)) kf_X7_isWithin.2.1 kf_X7_isWithin.2.2 ⟨by decide, by decide, by decide +kernel⟩ rfl rfl ⟨by decide, by decide⟩ ⟨Nat.le_refl _, Nat.le_refl _⟩ hdg
  | 2, hi, hq => cases hi; cases hq; exact fun p e s m args below meth c D tys tC ad Q pc X hdg => qq_cV (ci := 3) X ww_gd (M_X3_of l) kf_X3_of.1 (Or.inl (ww_a2 (i := 136) (w := Cond.methodLink RX7 120 yX3_of) rfl rfl)) kf_X3_of.2.1 kf_X3_of.2.2.1 kf_X3_of.2.2.2 ⟨by decide, by decide, by decide +kernel⟩ rfl rfl rfl ⟨by decide, by decide⟩ ⟨Nat.le_refl _, Nat.le_refl _⟩ hv_X3_of hdg
  | n + 3, hi, hq => simp [cs_X7_told] at hq
abbrev cs_X7_given : List (Nat × qq_t) := [(2, T_X3_hasNode), (2, T_X3_isCall), (2, T_X0_answer), (3, T_X3_of), (2, T_X7_isWithin)]
def T_X7_given : qq_t := fun As w P => match As with
  | [.ref 0, .int a0, .int a1] => qq_go ww_sh ww_ro cs_X7_given (qq_at 73 kd_X7_given) (some .int) (fun _ => false) P qq_no 41 0 (lv_args 0 [.ref 0, .int a0, .int a1]) [] w
  | _ => False
theorem bd_X7_given : ∀ As w P K, qq_Sat ww_sh ww_ro cs_X7_given (qq_at 73 kd_X7_given) (some .int) P K → T_X7_given As w P → K 0 (lv_args 0 As) [] w := by
  intro As w P K S h
  unfold T_X7_given at h
  split at h
  · exact qq_go_all S h
  · exact h.elim
theorem ha_X7_given : ∀ As w P, T_X7_given As w P → qq_wd As ≤ 3 := by
  intro As w P h
  unfold T_X7_given at h
  split at h
  · exact Nat.le_of_ble_eq_true rfl
  · exact h.elim
theorem hv_X7_given : ∀ As w P, T_X7_given As w P → ∃ (k : Nat) (r : List Value) (fs : List Nat), As = .ref k :: r ∧ ww_sh[k]? = some (.inr (7, fs)) := by
  intro As w P h
  unfold T_X7_given at h
  split at h
  · exact ⟨_, _, _, rfl, rfl⟩
  · exact h.elim
set_option maxRecDepth 100000 in
theorem M_X7_given (l : Launch) : qq_M l ww_T ww_N vwCl ww_sh ww_ro ww_zs yX7_given cX7_given 3 (some .int) (ww_rm 2) T_X7_given := by
  refine qq_mk (host := RX7) (is := ki_X7_given) (cs := cs_X7_given) (by decide) ww_k1 wl_X7 ww_so ww_so2 kc_X7_given kv_X7_given kg_X7_given ?_ ha_X7_given bd_X7_given
  intro k i q hi hq
  match k, hi, hq with
  | 0, hi, hq => cases hi; cases hq; exact fun p e s m args below meth c D tys tC ad Q pc X hdg => qq_cV (ci := 3) X ww_gd (M_X3_hasNode l) kf_X3_hasNode.1 (Or.inl (ww_a2 (i := 132) (w := Cond.methodLink RX7 117 yX3_hasNode) rfl rfl)) kf_X3_hasNode.2.1 kf_X3_hasNode.2.2.1 kf_X3_hasNode.2.2.2 ⟨by decide, by decide, by decide +kernel⟩ rfl rfl rfl ⟨by decide, by decide⟩ ⟨Nat.le_refl _, Nat.le_refl _⟩ hv_X3_hasNode hdg
  | 1, hi, hq => cases hi; cases hq; exact fun p e s m args below meth c D tys tC ad Q pc X hdg => qq_cV (ci := 3) X ww_gd (M_X3_isCall l) kf_X3_isCall.1 (Or.inl (ww_a2 (i := 140) (w := Cond.methodLink RX7 123 yX3_isCall) rfl rfl)) kf_X3_isCall.2.1 kf_X3_isCall.2.2.1 kf_X3_isCall.2.2.2 ⟨by decide, by decide, by decide +kernel⟩ rfl rfl rfl ⟨by decide, by decide⟩ ⟨Nat.le_refl _, Nat.le_refl _⟩ hv_X3_isCall hdg
  | 2, hi, hq => cases hi; cases hq; exact fun p e s m args below meth c D tys tC ad Q pc X hdg => qq_cV (ci := 0) X ww_gd (M_X0_answer l) kf_X0_answer.1 (Or.inl (ww_a2 (i := 120) (w := Cond.methodLink RX7 110 yX0_answer) rfl rfl)) kf_X0_answer.2.1 kf_X0_answer.2.2.1 kf_X0_answer.2.2.2 ⟨by decide, by decide, by decide +kernel⟩ rfl rfl rfl ⟨by decide, by decide⟩ ⟨Nat.le_refl _, Nat.le_refl _⟩ hv_X0_answer hdg
  | 3, hi, hq => cases hi; cases hq; exact fun p e s m args below meth c D tys tC ad Q pc X hdg => qq_cV (ci := 3) X ww_gd (M_X3_of l) kf_X3_of.1 (Or.inl (ww_a2 (i := 136) (w := Cond.methodLink RX7 120 yX3_of) rfl rfl)) kf_X3_of.2.1 kf_X3_of.2.2.1 kf_X3_of.2.2.2 ⟨by decide, by decide, by decide +kernel⟩ rfl rfl rfl ⟨by decide, by decide⟩ ⟨Nat.le_refl _, Nat.le_refl _⟩ hv_X3_of hdg
  | 4, hi, hq => cases hi; cases hq; exact fun p e s m args below meth c D tys tC ad Q pc X hdg => qq_cS X ww_gd (M_X7_isWithin l) kf_X7_isWithin.1 (Or.inl (ww_a2 (i := 50) (w := Cond.methodLink RX7 59 yX7_isWithin) rfl rfl)) kf_X7_isWithin.2.1 kf_X7_isWithin.2.2 ⟨by decide, by decide, by decide +kernel⟩ rfl rfl ⟨by decide, by decide⟩ ⟨Nat.le_refl _, Nat.le_refl _⟩ hdg
  | n + 5, hi, hq => simp [cs_X7_given] at hq
abbrev cs_X7_client : List (Nat × qq_t) := [(2, T_X7_isWithin), (1, T_X7_endSolving)]
def T_X7_client : qq_t := fun As w P => match As with
  | [.ref 0, .int a0] => qq_go ww_sh ww_ro cs_X7_client (qq_at 32 kd_X7_client) (some .int) (fun _ => false) P qq_no 19 0 (lv_args 0 [.ref 0, .int a0]) [] w
  | _ => False
theorem bd_X7_client : ∀ As w P K, qq_Sat ww_sh ww_ro cs_X7_client (qq_at 32 kd_X7_client) (some .int) P K → T_X7_client As w P → K 0 (lv_args 0 As) [] w := by
  intro As w P K S h
  unfold T_X7_client at h
  split at h
  · exact qq_go_all S h
  · exact h.elim
theorem ha_X7_client : ∀ As w P, T_X7_client As w P → qq_wd As ≤ 3 := by
  intro As w P h
  unfold T_X7_client at h
  split at h
  · exact Nat.le_of_ble_eq_true rfl
  · exact h.elim
theorem hv_X7_client : ∀ As w P, T_X7_client As w P → ∃ (k : Nat) (r : List Value) (fs : List Nat), As = .ref k :: r ∧ ww_sh[k]? = some (.inr (7, fs)) := by
  intro As w P h
  unfold T_X7_client at h
  split at h
  · exact ⟨_, _, _, rfl, rfl⟩
  · exact h.elim
set_option maxRecDepth 100000 in
theorem M_X7_client (l : Launch) : qq_M l ww_T ww_N vwCl ww_sh ww_ro ww_zs yX7_client cX7_client 3 (some .int) (ww_rm 2) T_X7_client := by
  refine qq_mk (host := RX7) (is := ki_X7_client) (cs := cs_X7_client) (by decide) ww_k1 wl_X7 ww_so ww_so2 kc_X7_client kv_X7_client kg_X7_client ?_ ha_X7_client bd_X7_client
  intro k i q hi hq
  match k, hi, hq with
  | 0, hi, hq => cases hi; cases hq; exact fun p e s m args below meth c D tys tC ad Q pc X hdg => qq_cS X ww_gd (M_X7_isWithin l) kf_X7_isWithin.1 (Or.inl (ww_a2 (i := 50) (w := Cond.methodLink RX7 59 yX7_isWithin) rfl rfl)) kf_X7_isWithin.2.1 kf_X7_isWithin.2.2 ⟨by decide, by decide, by decide +kernel⟩ rfl rfl ⟨by decide, by decide⟩ ⟨Nat.le_refl _, Nat.le_refl _⟩ hdg
  | 1, hi, hq => cases hi; cases hq; exact fun p e s m args below meth c D tys tC ad Q pc X hdg => qq_cV (ci := 7) X ww_gd (M_X7_endSolving l) kf_X7_endSolving.1 (Or.inl (ww_a2 (i := 60) (w := Cond.methodLink RX7 77 yX7_endSolving) rfl rfl)) kf_X7_endSolving.2.1 kf_X7_endSolving.2.2.1 kf_X7_endSolving.2.2.2 ⟨by decide, by decide, by decide +kernel⟩ rfl rfl rfl ⟨by decide, by decide⟩ ⟨Nat.le_refl _, Nat.le_refl _⟩ hv_X7_endSolving hdg
  | n + 2, hi, hq => simp [cs_X7_client] at hq
abbrev cs_X7_begin : List (Nat × qq_t) := [(2, T_X7_isWithin), (1, T_X7_endSolving)]
def T_X7_begin : qq_t := fun As w P => match As with
  | [.ref 0, .int a0] => qq_go ww_sh ww_ro cs_X7_begin (qq_at 34 kd_X7_begin) (some .int) (fun _ => false) P qq_no 19 0 (lv_args 0 [.ref 0, .int a0]) [] w
  | _ => False
theorem bd_X7_begin : ∀ As w P K, qq_Sat ww_sh ww_ro cs_X7_begin (qq_at 34 kd_X7_begin) (some .int) P K → T_X7_begin As w P → K 0 (lv_args 0 As) [] w := by
  intro As w P K S h
  unfold T_X7_begin at h
  split at h
  · exact qq_go_all S h
  · exact h.elim
theorem ha_X7_begin : ∀ As w P, T_X7_begin As w P → qq_wd As ≤ 3 := by
  intro As w P h
  unfold T_X7_begin at h
  split at h
  · exact Nat.le_of_ble_eq_true rfl
  · exact h.elim
theorem hv_X7_begin : ∀ As w P, T_X7_begin As w P → ∃ (k : Nat) (r : List Value) (fs : List Nat), As = .ref k :: r ∧ ww_sh[k]? = some (.inr (7, fs)) := by
  intro As w P h
  unfold T_X7_begin at h
  split at h
  · exact ⟨_, _, _, rfl, rfl⟩
  · exact h.elim
set_option maxRecDepth 100000 in
theorem M_X7_begin (l : Launch) : qq_M l ww_T ww_N vwCl ww_sh ww_ro ww_zs yX7_begin cX7_begin 3 (some .int) (ww_rm 2) T_X7_begin := by
  refine qq_mk (host := RX7) (is := ki_X7_begin) (cs := cs_X7_begin) (by decide) ww_k1 wl_X7 ww_so ww_so2 kc_X7_begin kv_X7_begin kg_X7_begin ?_ ha_X7_begin bd_X7_begin
  intro k i q hi hq
  match k, hi, hq with
  | 0, hi, hq => cases hi; cases hq; exact fun p e s m args below meth c D tys tC ad Q pc X hdg => qq_cS X ww_gd (M_X7_isWithin l) kf_X7_isWithin.1 (Or.inl (ww_a2 (i := 50) (w := Cond.methodLink RX7 59 yX7_isWithin) rfl rfl)) kf_X7_isWithin.2.1 kf_X7_isWithin.2.2 ⟨by decide, by decide, by decide +kernel⟩ rfl rfl ⟨by decide, by decide⟩ ⟨Nat.le_refl _, Nat.le_refl _⟩ hdg
  | 1, hi, hq => cases hi; cases hq; exact fun p e s m args below meth c D tys tC ad Q pc X hdg => qq_cV (ci := 7) X ww_gd (M_X7_endSolving l) kf_X7_endSolving.1 (Or.inl (ww_a2 (i := 60) (w := Cond.methodLink RX7 77 yX7_endSolving) rfl rfl)) kf_X7_endSolving.2.1 kf_X7_endSolving.2.2.1 kf_X7_endSolving.2.2.2 ⟨by decide, by decide, by decide +kernel⟩ rfl rfl rfl ⟨by decide, by decide⟩ ⟨Nat.le_refl _, Nat.le_refl _⟩ hv_X7_endSolving hdg
  | n + 2, hi, hq => simp [cs_X7_begin] at hq
abbrev cs_X7_from : List (Nat × qq_t) := [(3, T_X3_hasState), (1, T_X5_isDone), (3, T_X5_reached)]
def T_X7_from : qq_t := fun As w P => match As with
  | [.ref 0, .int a0, .int a1] => qq_go ww_sh ww_ro cs_X7_from (qq_at 39 kd_X7_from) (some .int) (fun _ => false) P qq_no 21 0 (lv_args 0 [.ref 0, .int a0, .int a1]) [] w
  | _ => False
theorem bd_X7_from : ∀ As w P K, qq_Sat ww_sh ww_ro cs_X7_from (qq_at 39 kd_X7_from) (some .int) P K → T_X7_from As w P → K 0 (lv_args 0 As) [] w := by
  intro As w P K S h
  unfold T_X7_from at h
  split at h
  · exact qq_go_all S h
  · exact h.elim
theorem ha_X7_from : ∀ As w P, T_X7_from As w P → qq_wd As ≤ 3 := by
  intro As w P h
  unfold T_X7_from at h
  split at h
  · exact Nat.le_of_ble_eq_true rfl
  · exact h.elim
theorem hv_X7_from : ∀ As w P, T_X7_from As w P → ∃ (k : Nat) (r : List Value) (fs : List Nat), As = .ref k :: r ∧ ww_sh[k]? = some (.inr (7, fs)) := by
  intro As w P h
  unfold T_X7_from at h
  split at h
  · exact ⟨_, _, _, rfl, rfl⟩
  · exact h.elim
set_option maxRecDepth 100000 in
theorem M_X7_from (l : Launch) : qq_M l ww_T ww_N vwCl ww_sh ww_ro ww_zs yX7_from cX7_from 3 (some .int) (ww_rm 2) T_X7_from := by
  refine qq_mk (host := RX7) (is := ki_X7_from) (cs := cs_X7_from) (by decide) ww_k1 wl_X7 ww_so ww_so2 kc_X7_from kv_X7_from kg_X7_from ?_ ha_X7_from bd_X7_from
  intro k i q hi hq
  match k, hi, hq with
  | 0, hi, hq => cases hi; cases hq; exact fun p e s m args below meth c D tys tC ad Q pc X hdg => qq_cV (ci := 3) X ww_gd (M_X3_hasState l) kf_X3_hasState.1 (Or.inl (ww_a2 (i := 196) (w := Cond.methodLink RX7 170 yX3_hasState) rfl rfl)) kf_X3_hasState.2.1 kf_X3_hasState.2.2.1 kf_X3_hasState.2.2.2 ⟨by decide, by decide, by decide +kernel⟩ rfl rfl rfl ⟨by decide, by decide⟩ ⟨Nat.le_refl _, Nat.le_refl _⟩ hv_X3_hasState hdg
  | 1, hi, hq => cases hi; cases hq; exact fun p e s m args below meth c D tys tC ad Q pc X hdg => qq_cV (ci := 5) X ww_gd (M_X5_isDone l) kf_X5_isDone.1 (Or.inl (ww_a3 (i := 120) (w := Cond.methodLink RX7 184 yX5_isDone) rfl rfl)) kf_X5_isDone.2.1 kf_X5_isDone.2.2.1 kf_X5_isDone.2.2.2 ⟨by decide, by decide, by decide +kernel⟩ rfl rfl rfl ⟨by decide, by decide⟩ ⟨Nat.le_refl _, Nat.le_refl _⟩ hv_X5_isDone hdg
  | 2, hi, hq => cases hi; cases hq; exact fun p e s m args below meth c D tys tC ad Q pc X hdg => qq_cV (ci := 5) X ww_gd (M_X5_reached l) kf_X5_reached.1 (Or.inl (ww_a3 (i := 155) (w := Cond.methodLink RX7 197 yX5_reached) rfl rfl)) kf_X5_reached.2.1 kf_X5_reached.2.2.1 kf_X5_reached.2.2.2 ⟨by decide, by decide, by decide +kernel⟩ rfl rfl rfl ⟨by decide, by decide⟩ ⟨Nat.le_refl _, Nat.le_refl _⟩ hv_X5_reached hdg
  | n + 3, hi, hq => simp [cs_X7_from] at hq
abbrev cs_X7_at : List (Nat × qq_t) := [(2, T_X7_isWithin)]
def T_X7_at : qq_t := fun As w P => match As with
  | [.ref 0, .int a0, .int a1] => qq_go ww_sh ww_ro cs_X7_at (qq_at 90 kd_X7_at) (some .int) (fun _ => false) P qq_no 37 0 (lv_args 0 [.ref 0, .int a0, .int a1]) [] w
  | _ => False
theorem bd_X7_at : ∀ As w P K, qq_Sat ww_sh ww_ro cs_X7_at (qq_at 90 kd_X7_at) (some .int) P K → T_X7_at As w P → K 0 (lv_args 0 As) [] w := by
  intro As w P K S h
  unfold T_X7_at at h
  split at h
  · exact qq_go_all S h
  · exact h.elim
theorem ha_X7_at : ∀ As w P, T_X7_at As w P → qq_wd As ≤ 3 := by
  intro As w P h
  unfold T_X7_at at h
  split at h
  · exact Nat.le_of_ble_eq_true rfl
  · exact h.elim
theorem hv_X7_at : ∀ As w P, T_X7_at As w P → ∃ (k : Nat) (r : List Value) (fs : List Nat), As = .ref k :: r ∧ ww_sh[k]? = some (.inr (7, fs)) := by
  intro As w P h
  unfold T_X7_at at h
  split at h
  · exact ⟨_, _, _, rfl, rfl⟩
  · exact h.elim
set_option maxRecDepth 100000 in
theorem M_X7_at (l : Launch) : qq_M l ww_T ww_N vwCl ww_sh ww_ro ww_zs yX7_at cX7_at 3 (some .int) (ww_rm 1) T_X7_at := by
  refine qq_mk (host := RX7) (is := ki_X7_at) (cs := cs_X7_at) (by decide) ww_k1 wl_X7 ww_so ww_so2 kc_X7_at kv_X7_at kg_X7_at ?_ ha_X7_at bd_X7_at
  intro k i q hi hq
  match k, hi, hq with
  | 0, hi, hq => cases hi; cases hq; exact fun p e s m args below meth c D tys tC ad Q pc X hdg => qq_cS X ww_gd (M_X7_isWithin l) kf_X7_isWithin.1 (Or.inl (ww_a2 (i := 50) (w := Cond.methodLink RX7 59 yX7_isWithin) rfl rfl)) kf_X7_isWithin.2.1 kf_X7_isWithin.2.2 ⟨by decide, by decide, by decide +kernel⟩ rfl rfl ⟨by decide, by decide⟩ ⟨Nat.le_refl _, Nat.le_refl _⟩ hdg
  | n + 1, hi, hq => simp [cs_X7_at] at hq
abbrev cs_X7_tellRow : List (Nat × qq_t) := [(3, T_X3_hasState), (2, T_X7_isWithin), (3, T_X3_hasPart), (2, T_X0_answer), (1, T_X7_endSolving), (5, T_X1_tellRow)]
def T_X7_tellRow : qq_t := fun As w P => match As with
  | [.ref 0, .int a0, .int a1, .int a2, .int a3] => qq_go ww_sh ww_ro cs_X7_tellRow (qq_at 72 kd_X7_tellRow) (some .int) (fun _ => false) P qq_no 39 0 (lv_args 0 [.ref 0, .int a0, .int a1, .int a2, .int a3]) [] w
  | _ => False
theorem bd_X7_tellRow : ∀ As w P K, qq_Sat ww_sh ww_ro cs_X7_tellRow (qq_at 72 kd_X7_tellRow) (some .int) P K → T_X7_tellRow As w P → K 0 (lv_args 0 As) [] w := by
  intro As w P K S h
  unfold T_X7_tellRow at h
  split at h
  · exact qq_go_all S h
  · exact h.elim
theorem ha_X7_tellRow : ∀ As w P, T_X7_tellRow As w P → qq_wd As ≤ 5 := by
  intro As w P h
  unfold T_X7_tellRow at h
  split at h
  · exact Nat.le_of_ble_eq_true rfl
  · exact h.elim
theorem hv_X7_tellRow : ∀ As w P, T_X7_tellRow As w P → ∃ (k : Nat) (r : List Value) (fs : List Nat), As = .ref k :: r ∧ ww_sh[k]? = some (.inr (7, fs)) := by
  intro As w P h
  unfold T_X7_tellRow at h
  split at h
  · exact ⟨_, _, _, rfl, rfl⟩
  · exact h.elim
set_option maxRecDepth 100000 in
theorem M_X7_tellRow (l : Launch) : qq_M l ww_T ww_N vwCl ww_sh ww_ro ww_zs yX7_tellRow cX7_tellRow 5 (some .int) (ww_rm 3) T_X7_tellRow := by
  refine qq_mk (host := RX7) (is := ki_X7_tellRow) (cs := cs_X7_tellRow) (by decide) ww_k1 wl_X7 ww_so ww_so2 kc_X7_tellRow kv_X7_tellRow kg_X7_tellRow ?_ ha_X7_tellRow bd_X7_tellRow
  intro k i q hi hq
  match k, hi, hq with
  | 0, hi, hq => cases hi; cases hq; exact fun p e s m args below meth c D tys tC ad Q pc X hdg => qq_cV (ci := 3) X ww_gd (M_X3_hasState l) kf_X3_hasState.1 (Or.inl (ww_a2 (i := 196) (w := Cond.methodLink RX7 170 yX3_hasState) rfl rfl)) kf_X3_hasState.2.1 kf_X3_hasState.2.2.1 kf_X3_hasState.2.2.2 ⟨by decide, by decide, by decide +kernel⟩ rfl rfl rfl ⟨by decide, by decide⟩ ⟨Nat.le_refl _, Nat.le_refl _⟩ hv_X3_hasState hdg
  | 1, hi, hq => cases hi; cases hq; exact fun p e s m args below meth c D tys tC ad Q pc X hdg => qq_cS X ww_gd (M_X7_isWithin l) kf_X7_isWithin.1 (Or.inl (ww_a2 (i := 50) (w := Cond.methodLink RX7 59 yX7_isWithin) rfl rfl)) kf_X7_isWithin.2.1 kf_X7_isWithin.2.2 ⟨by decide, by decide, by decide +kernel⟩ rfl rfl ⟨by decide, by decide⟩ ⟨Nat.le_refl _, Nat.le_refl _⟩ hdg
  | 2, hi, hq => cases hi; cases hq; exact fun p e s m args below meth c D tys tC ad Q pc X hdg => qq_cV (ci := 3) X ww_gd (M_X3_hasPart l) kf_X3_hasPart.1 (Or.inl (ww_a2 (i := 200) (w := Cond.methodLink RX7 157 yX3_hasPart) rfl rfl)) kf_X3_hasPart.2.1 kf_X3_hasPart.2.2.1 kf_X3_hasPart.2.2.2 ⟨by decide, by decide, by decide +kernel⟩ rfl rfl rfl ⟨by decide, by decide⟩ ⟨Nat.le_refl _, Nat.le_refl _⟩ hv_X3_hasPart hdg
  | 3, hi, hq => cases hi; cases hq; exact fun p e s m args below meth c D tys tC ad Q pc X hdg => qq_cV (ci := 0) X ww_gd (M_X0_answer l) kf_X0_answer.1 (Or.inl (ww_a2 (i := 120) (w := Cond.methodLink RX7 110 yX0_answer) rfl rfl)) kf_X0_answer.2.1 kf_X0_answer.2.2.1 kf_X0_answer.2.2.2 ⟨by decide, by decide, by decide +kernel⟩ rfl rfl rfl ⟨by decide, by decide⟩ ⟨Nat.le_refl _, Nat.le_refl _⟩ hv_X0_answer hdg
  | 4, hi, hq => cases hi; cases hq; exact fun p e s m args below meth c D tys tC ad Q pc X hdg => qq_cV (ci := 7) X ww_gd (M_X7_endSolving l) kf_X7_endSolving.1 (Or.inl (ww_a2 (i := 60) (w := Cond.methodLink RX7 77 yX7_endSolving) rfl rfl)) kf_X7_endSolving.2.1 kf_X7_endSolving.2.2.1 kf_X7_endSolving.2.2.2 ⟨by decide, by decide, by decide +kernel⟩ rfl rfl rfl ⟨by decide, by decide⟩ ⟨Nat.le_refl _, Nat.le_refl _⟩ hv_X7_endSolving hdg
  | 5, hi, hq => cases hi; cases hq; exact fun p e s m args below meth c D tys tC ad Q pc X hdg => qq_cV (ci := 1) X ww_gd (M_X1_tellRow l) kf_X1_tellRow.1 (Or.inl (ww_a2 (i := 205) (w := Cond.methodLink RX7 281 yX1_tellRow) rfl rfl)) kf_X1_tellRow.2.1 kf_X1_tellRow.2.2.1 kf_X1_tellRow.2.2.2 ⟨by decide, by decide, by decide +kernel⟩ rfl rfl rfl ⟨by decide, by decide⟩ ⟨Nat.le_refl _, Nat.le_refl _⟩ hv_X1_tellRow hdg
  | n + 6, hi, hq => simp [cs_X7_tellRow] at hq
abbrev cs_X7_flow : List (Nat × qq_t) := [(5, T_X7_tellRow)]
def T_X7_flow : qq_t := fun As w P => match As with
  | [.ref 0, .int a0, .int a1, .int a2, .int a3] => qq_go ww_sh ww_ro cs_X7_flow (qq_at 16 kd_X7_flow) (some .int) (fun _ => false) P qq_no 12 0 (lv_args 0 [.ref 0, .int a0, .int a1, .int a2, .int a3]) [] w
  | _ => False
theorem bd_X7_flow : ∀ As w P K, qq_Sat ww_sh ww_ro cs_X7_flow (qq_at 16 kd_X7_flow) (some .int) P K → T_X7_flow As w P → K 0 (lv_args 0 As) [] w := by
  intro As w P K S h
  unfold T_X7_flow at h
  split at h
  · exact qq_go_all S h
  · exact h.elim
theorem ha_X7_flow : ∀ As w P, T_X7_flow As w P → qq_wd As ≤ 5 := by
  intro As w P h
  unfold T_X7_flow at h
  split at h
  · exact Nat.le_of_ble_eq_true rfl
  · exact h.elim
theorem hv_X7_flow : ∀ As w P, T_X7_flow As w P → ∃ (k : Nat) (r : List Value) (fs : List Nat), As = .ref k :: r ∧ ww_sh[k]? = some (.inr (7, fs)) := by
  intro As w P h
  unfold T_X7_flow at h
  split at h
  · exact ⟨_, _, _, rfl, rfl⟩
  · exact h.elim
set_option maxRecDepth 100000 in
theorem M_X7_flow (l : Launch) : qq_M l ww_T ww_N vwCl ww_sh ww_ro ww_zs yX7_flow cX7_flow 5 (some .int) (ww_rm 4) T_X7_flow := by
  refine qq_mk (host := RX7) (is := ki_X7_flow) (cs := cs_X7_flow) (by decide) ww_k1 wl_X7 ww_so ww_so2 kc_X7_flow kv_X7_flow kg_X7_flow ?_ ha_X7_flow bd_X7_flow
  intro k i q hi hq
  match k, hi, hq with
  | 0, hi, hq => cases hi; cases hq; exact fun p e s m args below meth c D tys tC ad Q pc X hdg => qq_cV (ci := 7) X ww_gd (M_X7_tellRow l) kf_X7_tellRow.1 (Or.inl (ww_a2 (i := 192) (w := Cond.methodLink RX7 154 yX7_tellRow) rfl rfl)) kf_X7_tellRow.2.1 kf_X7_tellRow.2.2.1 kf_X7_tellRow.2.2.2 ⟨by decide, by decide, by decide +kernel⟩ rfl rfl rfl ⟨by decide, by decide⟩ ⟨Nat.le_refl _, Nat.le_refl _⟩ hv_X7_tellRow hdg
  | n + 1, hi, hq => simp [cs_X7_flow] at hq
abbrev cs_X7_zero : List (Nat × qq_t) := [(5, T_X7_tellRow)]
def T_X7_zero : qq_t := fun As w P => match As with
  | [.ref 0, .int a0, .int a1, .int a2] => qq_go ww_sh ww_ro cs_X7_zero (qq_at 9 kd_X7_zero) (some .int) (fun _ => false) P qq_no 8 0 (lv_args 0 [.ref 0, .int a0, .int a1, .int a2]) [] w
  | _ => False
theorem bd_X7_zero : ∀ As w P K, qq_Sat ww_sh ww_ro cs_X7_zero (qq_at 9 kd_X7_zero) (some .int) P K → T_X7_zero As w P → K 0 (lv_args 0 As) [] w := by
  intro As w P K S h
  unfold T_X7_zero at h
  split at h
  · exact qq_go_all S h
  · exact h.elim
theorem ha_X7_zero : ∀ As w P, T_X7_zero As w P → qq_wd As ≤ 4 := by
  intro As w P h
  unfold T_X7_zero at h
  split at h
  · exact Nat.le_of_ble_eq_true rfl
  · exact h.elim
theorem hv_X7_zero : ∀ As w P, T_X7_zero As w P → ∃ (k : Nat) (r : List Value) (fs : List Nat), As = .ref k :: r ∧ ww_sh[k]? = some (.inr (7, fs)) := by
  intro As w P h
  unfold T_X7_zero at h
  split at h
  · exact ⟨_, _, _, rfl, rfl⟩
  · exact h.elim
set_option maxRecDepth 100000 in
theorem M_X7_zero (l : Launch) : qq_M l ww_T ww_N vwCl ww_sh ww_ro ww_zs yX7_zero cX7_zero 4 (some .int) (ww_rm 4) T_X7_zero := by
  refine qq_mk (host := RX7) (is := ki_X7_zero) (cs := cs_X7_zero) (by decide) ww_k1 wl_X7 ww_so ww_so2 kc_X7_zero kv_X7_zero kg_X7_zero ?_ ha_X7_zero bd_X7_zero
  intro k i q hi hq
  match k, hi, hq with
  | 0, hi, hq => cases hi; cases hq; exact fun p e s m args below meth c D tys tC ad Q pc X hdg => qq_cV (ci := 7) X ww_gd (M_X7_tellRow l) kf_X7_tellRow.1 (Or.inl (ww_a2 (i := 192) (w := Cond.methodLink RX7 154 yX7_tellRow) rfl rfl)) kf_X7_tellRow.2.1 kf_X7_tellRow.2.2.1 kf_X7_tellRow.2.2.2 ⟨by decide, by decide, by decide +kernel⟩ rfl rfl rfl ⟨by decide, by decide⟩ ⟨Nat.le_refl _, Nat.le_refl _⟩ hv_X7_tellRow hdg
  | n + 1, hi, hq => simp [cs_X7_zero] at hq
