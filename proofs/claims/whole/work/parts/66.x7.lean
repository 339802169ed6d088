/-! System.arraycopy, by the kit's own rows -/
def T_arraycopy : qq_t := fun As w P => match As with
  | [.ref 14, .int a, .ref 14, .int b, .int n] => (∃ i j k, a = nI i ∧ b = nI j ∧ n = nI k ∧ i + k ≤ 256 ∧ j + k ≤ 256) ∧ P none (va_up w.1 14 (va_cpy (w.1 14) (w.1 14) (qn a) (qn b) (qn n)), w.2)
  | _ => False
theorem nI_nn {i : Nat} (h : i < 2 ^ 31) : ¬ nI i < 0 := fun y => absurd y (Int32.not_lt.mpr (i_ge' (x := nI i) (y := 0) (n := 0) rfl rfl (Nat.zero_le _) h))
theorem cf_arraycopy {l : Launch} {cc : ByteArray} {nL d : Nat} (hd : 1 ≤ d) : qq_cf l ww_T ww_N vwCl ww_sh ww_ro ww_zs RX7 cc nL (ww_rm d) 0 0 (.invokestatic 133) (5, T_arraycopy) := by
  intro p e s m args below meth c D tys tC ad Q pc X hdg lv As rest w P' hn hwd hT kk ls H locs hP hD hS hl
  have hT : T_arraycopy As w P' := hT
  unfold T_arraycopy at hT
  split at hT
  · rename_i a b n _
    obtain ⟨⟨i, j, k, ea, eb, en, h1, h2⟩, hq⟩ := hT
    have hts := X.1.2.2.2.2
    have hw := qq_wd_cat ad rest
    obtain ⟨t0, ht0⟩ := X.2.2.1 .int (Or.inl rfl)
    have hsh : ww_sh[14]? = some (.inl (.int, 256)) := rfl
    have hat : (qq_c ww_sh tC ad w)[14]? = some (ad 14, .inl (tC .int, 256, .inl (w.1 14))) := qq_c_at hsh
    have ca : a.toNatClampNeg = i := i_c ea (by omega)
    have cb : b.toNatClampNeg = j := i_c eb (by omega)
    have cn : n.toNatClampNeg = k := i_c en (by omega)
    refine va_copyi (rest := rest.map (qq_g ad)) X.1.1 X.1.2.1 (by rw [X.1.2.2.1, hl.1]) X.1.2.2.2.1 (hts _ (ww_a2 (i := 153) (w := Cond.methodLink RX7 133 arraycopyName) rfl rfl)) (hts _ (ww_a2 (i := 155) (w := Cond.native arraycopyName) rfl rfl)) (hts _ (ww_a2 (i := 154) (w := Cond.static arraycopyName) rfl rfl)) (hts _ (ww_a1 (i := 12) (w := Cond.initialized "java/lang/System") rfl rfl)) X.2.1 hP hD hS 14 14 t0 t0 hat hat ht0 ht0 rfl (by rw [ea]; exact nI_nn (by omega)) (by rw [eb]; exact nI_nn (by omega)) (by rw [en]; exact nI_nn (by omega)) (by rw [ca, cn]; exact h1) (by rw [cb, cn]; exact h2) (fun _ _ => rfl) hd (show ((rest.map (qq_g ad)).map fun v => v.category).sum + (nativeFrameWords "java/lang/System" "arraycopy" 5 + 11) ≤ 40 * d by rw [hw]; have : nativeFrameWords "java/lang/System" "arraycopy" 5 = 7 := rfl; omega) hdg ?_
    have hset : (qq_c ww_sh tC ad w).set 14 (ad 14, .inl (tC .int, 256, .inl (va_cpy (w.1 14) (w.1 14) a.toNatClampNeg b.toNatClampNeg n.toNatClampNeg))) = qq_c ww_sh tC ad (va_up w.1 14 (va_cpy (w.1 14) (w.1 14) (qn a) (qn b) (qn n)), w.2) := by
      refine qq_c_set hsh ?_ (fun i hi => by simp [va_up, hi]) (fun i _ => rfl)
      simp [qq_e, va_up]
      rfl
    intro H1 locs1 hP1 hD1 hS1
    rw [hset] at hP1 hD1
    exact kk none _ hq ls H1 locs1 hP1 hD1 hS1 hl
  · exact hT.elim
abbrev cs_X7_copy : List (Nat × qq_t) := [(2, T_X3_hasNode), (3, T_X3_of), (2, T_X3_isCall), (2, T_X0_answer), (4, T_X3_hasPlaces), (1, T_X7_endSolving), (5, T_arraycopy)]
def T_X7_copy : qq_t := fun As w P => match As with
  | [.ref 0, .int a0, .int a1, .int a2, .int a3, .int a4] => qq_go ww_sh ww_ro cs_X7_copy (qq_at 152 kd_X7_copy) (some .int) (fun _ => false) P qq_no 82 0 (lv_args 0 [.ref 0, .int a0, .int a1, .int a2, .int a3, .int a4]) [] w
  | _ => False
theorem bd_X7_copy : ∀ As w P K, qq_Sat ww_sh ww_ro cs_X7_copy (qq_at 152 kd_X7_copy) (some .int) P K → T_X7_copy As w P → K 0 (lv_args 0 As) [] w := by
  intro As w P K S h
  unfold T_X7_copy at h
  split at h
  · exact qq_go_all S h
  · exact h.elim
theorem ha_X7_copy : ∀ As w P, T_X7_copy As w P → qq_wd As ≤ 6 := by
  intro As w P h
  unfold T_X7_copy at h
  split at h
  · exact Nat.le_of_ble_eq_true rfl
  · exact h.elim
theorem hv_X7_copy : ∀ As w P, T_X7_copy As w P → ∃ (k : Nat) (r : List Value) (fs : List Nat), As = .ref k :: r ∧ ww_sh[k]? = some (.inr (7, fs)) := by
  intro As w P h
  unfold T_X7_copy at h
  split at h
  · exact ⟨_, _, _, rfl, rfl⟩
  · exact h.elim
set_option maxRecDepth 100000 in
theorem M_X7_copy (l : Launch) : qq_M l ww_T ww_N vwCl ww_sh ww_ro ww_zs yX7_copy cX7_copy 6 (some .int) (ww_rm 2) T_X7_copy := by
  refine qq_mk (host := RX7) (is := ki_X7_copy) (cs := cs_X7_copy) (by decide) ww_k1 wl_X7 ww_so ww_so2 kc_X7_copy kv_X7_copy kg_X7_copy ?_ ha_X7_copy bd_X7_copy
  intro k i q hi hq
  match k, hi, hq with
  | 0, hi, hq => cases hi; cases hq; exact fun p e s m args below meth c D tys tC ad Q pc X hdg => qq_cV (ci := 3) X ww_gd (M_X3_hasNode l) kf_X3_hasNode.1 (Or.inl (ww_a2 (i := 132) (w := Cond.methodLink RX7 117 yX3_hasNode) rfl rfl)) kf_X3_hasNode.2.1 kf_X3_hasNode.2.2.1 kf_X3_hasNode.2.2.2 ⟨by decide, by decide, by decide +kernel⟩ rfl rfl rfl ⟨by decide, by decide⟩ ⟨Nat.le_refl _, Nat.le_refl _⟩ hv_X3_hasNode hdg
  | 1, hi, hq => cases hi; cases hq; exact fun p e s m args below meth c D tys tC ad Q pc X hdg => qq_cV (ci := 3) X ww_gd (M_X3_of l) kf_X3_of.1 (Or.inl (ww_a2 (i := 136) (w := Cond.methodLink RX7 120 yX3_of) rfl rfl)) kf_X3_of.2.1 kf_X3_of.2.2.1 kf_X3_of.2.2.2 ⟨by decide, by decide, by decide +kernel⟩ rfl rfl rfl ⟨by decide, by decide⟩ ⟨Nat.le_refl _, Nat.le_refl _⟩ hv_X3_of hdg
  | 2, hi, hq => cases hi; cases hq; exact fun p e s m args below meth c D tys tC ad Q pc X hdg => qq_cV (ci := 3) X ww_gd (M_X3_isCall l) kf_X3_isCall.1 (Or.inl (ww_a2 (i := 140) (w := Cond.methodLink RX7 123 yX3_isCall) rfl rfl)) kf_X3_isCall.2.1 kf_X3_isCall.2.2.1 kf_X3_isCall.2.2.2 ⟨by decide, by decide, by decide +kernel⟩ rfl rfl rfl ⟨by decide, by decide⟩ ⟨Nat.le_refl _, Nat.le_refl _⟩ hv_X3_isCall hdg
  | 3, hi, hq => cases hi; cases hq; exact fun p e s m args below meth c D tys tC ad Q pc X hdg => qq_cV (ci := 0) X ww_gd (M_X0_answer l) kf_X0_answer.1 (Or.inl (ww_a2 (i := 120) (w := Cond.methodLink RX7 110 yX0_answer) rfl rfl)) kf_X0_answer.2.1 kf_X0_answer.2.2.1 kf_X0_answer.2.2.2 ⟨by decide, by decide, by decide +kernel⟩ rfl rfl rfl ⟨by decide, by decide⟩ ⟨Nat.le_refl _, Nat.le_refl _⟩ hv_X0_answer hdg
  | 4, hi, hq => cases hi; cases hq; exact fun p e s m args below meth c D tys tC ad Q pc X hdg => qq_cV (ci := 3) X ww_gd (M_X3_hasPlaces l) kf_X3_hasPlaces.1 (Or.inl (ww_a2 (i := 149) (w := Cond.methodLink RX7 129 yX3_hasPlaces) rfl rfl)) kf_X3_hasPlaces.2.1 kf_X3_hasPlaces.2.2.1 kf_X3_hasPlaces.2.2.2 ⟨by decide, by decide, by decide +kernel⟩ rfl rfl rfl ⟨by decide, by decide⟩ ⟨Nat.le_refl _, Nat.le_refl _⟩ hv_X3_hasPlaces hdg
  | 5, hi, hq => cases hi; cases hq; exact fun p e s m args below meth c D tys tC ad Q pc X hdg => qq_cV (ci := 7) X ww_gd (M_X7_endSolving l) kf_X7_endSolving.1 (Or.inl (ww_a2 (i := 60) (w := Cond.methodLink RX7 77 yX7_endSolving) rfl rfl)) kf_X7_endSolving.2.1 kf_X7_endSolving.2.2.1 kf_X7_endSolving.2.2.2 ⟨by decide, by decide, by decide +kernel⟩ rfl rfl rfl ⟨by decide, by decide⟩ ⟨Nat.le_refl _, Nat.le_refl _⟩ hv_X7_endSolving hdg
  | 6, hi, hq => cases hi; cases hq; exact cf_arraycopy (by decide)
  | n + 7, hi, hq => simp [cs_X7_copy] at hq
/-- the variables that are reported at a node, by the class -/
def cWt (w : qq_w) (n g : Nat) : Prop := ((¬ w.1 2 2 = 2 ∧ cX w n 1 = 8) ∧ g = qn (cX w n 2)) ∨ (¬ (¬ w.1 2 2 = 2 ∧ cX w n 1 = 8) ∧ w.1 2 2 = 1 ∧ cReadG w n (cX w n 1) g)
def cRp (w : qq_w) (n g : Nat) : Prop := cWt w n g ∧ cHolds w n g
def cRk (w : qq_w) (n : Nat) : Prop := vp_in (cX w n 1) 11 ∧ (cX w n 1 = 8 → vp_in (cX w n 2) 13) ∧ ((cX w n 1 = 4 ∨ cX w n 1 = 5) → vp_in (cX w n 3) 13) ∧ (cX w n 1 = 5 → vp_in (cX w n 4) 13) ∧ (cX w n 1 = 9 → vp_in (cX w n 8) 5 ∧ ∀ i, i < qn (cX w n 8) → w.1 14 (4 * n + i) = -5 ∨ vp_in (w.1 14 (4 * n + i)) 13)
def T2_X7_reportedAt : qq_t := fun As w P => match As with
  | [.ref 0, .int a] => (vp_in a 64 ∧ cRk w (qn a)) ∧ ∀ x, (∀ g, bt x g = true ↔ cRp w (qn a) g) → P (some (.int x)) w
  | _ => False
set_option maxHeartbeats 4000000 in
set_option maxRecDepth 100000 in
theorem reportedAt_T : ∀ As w P, T2_X7_reportedAt As w P → T_X7_reportedAt As w P := by
  intro As w P h
  unfold T2_X7_reportedAt at h
  split at h
  · rename_i a
    obtain ⟨⟨hp, hk⟩, hq⟩ := h
    obtain ⟨ea, ha⟩ := qn_eq hp (by decide)
    have i1 := nI_ml ea (x := 1) (i := 1) rfl (nI_lit 10)
    have i2 := nI_ml ea (x := 2) (i := 2) rfl (nI_lit 10)
    have c1 : w.1 13 (a * 10 + 1).toNatClampNeg = cX w (qn a) 1 := by rw [i_c i1 (by omega)]
    have c2 : w.1 13 (a * 10 + 2).toNatClampNeg = cX w (qn a) 2 := by rw [i_c i2 (by omega)]
    have fin : ∀ y : Int32, (∀ g, bt y g = true ↔ cWt w (qn a) g) → P (some (.int (y &&& qq_or (w.1 20) (13 * qn a) 13))) w := fun y hy => by
      refine hq _ (fun g => ?_)
      rw [b_and, Bool.and_eq_true, hy g, cHolds_or]
      exact Iff.rfl
    unfold T_X7_reportedAt
    conv => whnf
    refine ⟨i_in 640 i1 (by omega) (by decide), ?_⟩
    conv => whnf
    have rest : ¬ (¬ w.1 2 2 = 2 ∧ cX w (qn a) 1 = 8) → w.1 2 2 = 1 → ∀ x, (∀ g, bt x g = true ↔ cReadG w (qn a) (w.1 13 (a * 10 + 1).toNatClampNeg) g) → P (some (.int (x &&& qq_or (w.1 20) (13 * qn a) 13))) w := fun h1 h2 x hx => by
      refine fin x (fun g => ?_)
      rw [hx g, c1]
      unfold cWt
      exact ⟨fun t => Or.inr ⟨h1, h2, t⟩, fun t => t.elim (fun u => absurd u.1 h1) (fun u => u.2.2)⟩
    have prer : vp_in a 64 ∧ vp_in (w.1 13 (a * 10 + 1).toNatClampNeg) 11 ∧ ((w.1 13 (a * 10 + 1).toNatClampNeg = 4 ∨ w.1 13 (a * 10 + 1).toNatClampNeg = 5) → vp_in (cX w (qn a) 3) 13) ∧ (w.1 13 (a * 10 + 1).toNatClampNeg = 5 → vp_in (cX w (qn a) 4) 13) ∧ (w.1 13 (a * 10 + 1).toNatClampNeg = 9 → vp_in (cX w (qn a) 8) 5 ∧ ∀ i, i < qn (cX w (qn a) 8) → w.1 14 (4 * qn a + i) = -5 ∨ vp_in (w.1 14 (4 * qn a + i)) 13) := by
      rw [c1]
      exact ⟨hp, hk.1, hk.2.2.1, hk.2.2.2.1, hk.2.2.2.2⟩
    have zero : ¬ (¬ w.1 2 2 = 2 ∧ cX w (qn a) 1 = 8) → ¬ w.1 2 2 = 1 → P (some (.int (0 &&& qq_or (w.1 20) (13 * qn a) 13))) w := fun h1 h2 => fin 0 (fun g => by
      rw [b_0]
      unfold cWt
      exact ⟨fun t => (nomatch t), fun t => t.elim (fun u => absurd u.1 h1) (fun u => absurd u.2.1 h2)⟩)
    refine ⟨fun h2 => ?_, fun h2 => ?_⟩
    · have h2 : w.1 2 2 = 2 := h2
      conv => whnf
      refine br_nt (fun (t : w.1 2 2 = 1) => ?_) ?_
      · rw [h2] at t; exact absurd t (by decide)
      conv => whnf
      refine ⟨hp, ?_⟩
      conv => whnf
      exact zero (fun t => t.1 h2) (fun t => by rw [h2] at t; exact absurd t (by decide))
    · have h2 : ¬ w.1 2 2 = 2 := h2
      conv => whnf
      refine ⟨fun h8 => ?_, fun h8 => ?_⟩
      · have h8 : ¬ w.1 13 (a * 10 + 1).toNatClampNeg = 8 := h8
        rw [c1] at h8
        conv => whnf
        refine ⟨fun h1 => ?_, fun h1 => ?_⟩
        · conv => whnf
          refine ⟨hp, ?_⟩
          conv => whnf
          exact zero (fun t => h8 t.2) h1
        · conv => whnf
          refine ⟨prer, fun x hx => ?_⟩
          conv => whnf
          refine ⟨hp, ?_⟩
          conv => whnf
          exact rest (fun t => h8 t.2) h1 x hx
      · have h8 : w.1 13 (a * 10 + 1).toNatClampNeg = 8 := h8
        rw [c1] at h8
        conv => whnf
        refine ⟨i_in 640 i2 (by omega) (by decide), ?_⟩
        conv => whnf
        refine ⟨hp, ?_⟩
        conv => whnf
        have := fin ((1 : Int32) <<< (cX w (qn a) 2 &&& 31)) (fun g => ?_)
        · rw [← c2] at this
          exact this
        · rw [b_at (hk.2.1 h8)]
          unfold cWt
          exact ⟨fun t => Or.inl ⟨⟨h2, h8⟩, t⟩, fun t => t.elim (fun u => u.2) (fun u => absurd ⟨h2, h8⟩ u.1)⟩
  · exact h.elim
theorem hv2_X7_reportedAt : ∀ As w P, T2_X7_reportedAt As w P → ∃ (k : Nat) (r : List Value) (fs : List Nat), As = .ref k :: r ∧ ww_sh[k]? = some (.inr (7, fs)) := fun As w P h => hv_X7_reportedAt As w P (reportedAt_T As w P h)
theorem M2_X7_reportedAt (l : Launch) : qq_M l ww_T ww_N vwCl ww_sh ww_ro ww_zs yX7_reportedAt cX7_reportedAt 2 (some .int) (ww_rm 4) T2_X7_reportedAt := fun D tys tC ad sz As w P hT => M_X7_reportedAt l D tys tC ad sz As w P (reportedAt_T As w P hT)
abbrev cs_X7_reports : List (Nat × qq_t) := [(1, T_X5_isDone), (2, T2_X7_reportedAt), (1, T_J6_bitCount_0f7a4)]
def H_X7_reports (P : Option Value → qq_w → Prop) (pc : Nat) (lv : qq_L) (st : List Value) (w : qq_w) : Prop := pc = 17 ∧ st = [] ∧ qq_le [(0, .ref 0), (1, .int 0), (2, .int 0)] lv ∧ vp_in (w.1 1 10) 65 ∧ (∀ n, n < qn (w.1 1 10) → cRk w n) ∧ ∃ B : Nat → Int32, (∀ n, n < qn (w.1 1 10) → fs (B n) ∧ ∀ g, bt (B n) g = true ↔ cRp w n g) ∧ P (some (.int (nI (cCount B (qn (w.1 1 10)))))) w
def T_X7_reports : qq_t := fun As w P => match As with
  | [.ref 0] => qq_go ww_sh ww_ro cs_X7_reports (qq_at 47 kd_X7_reports) (some .int) (fun pc => Nat.beq pc 17) P (H_X7_reports P) 27 0 (lv_args 0 [.ref 0]) [] w
  | _ => False
theorem b_uq {x y : Int32} {R : Nat → Prop} (hx : ∀ g, bt x g = true ↔ R g) (hy : ∀ g, bt y g = true ↔ R g) : x = y := b_ext fun i _ => by
  cases h : bt x i with
  | true => exact ((hy i).mpr ((hx i).mp h)).symm
  | false =>
    cases h2 : bt y i with
    | false => rfl
    | true =>
      have := (hx i).mpr ((hy i).mp h2)
      rw [h] at this
      exact this
theorem rs_17 {P : Option Value → qq_w → Prop} {K : Nat → qq_L → List Value → qq_w → Prop} (S : qq_Sat ww_sh ww_ro cs_X7_reports (qq_at 47 kd_X7_reports) (some .int) P K) {w : qq_w} {B : Nat → Int32} {N : Nat} (eN : w.1 1 10 = nI N) (hN : N ≤ 64) (hk : ∀ n, n < N → cRk w n) (hB : ∀ n, n < N → fs (B n) ∧ ∀ g, bt (B n) g = true ↔ cRp w n g) (hq : P (some (.int (nI (cCount B N)))) w) :
    ∀ m i, i + m = N → ∀ x1 x2 : Int32, x2 = nI i → x1 = nI (cCount B i) → K 17 [(0, .ref 0), (1, .int x1), (2, .int x2)] [] w := by
  intro m
  induction m with
  | zero =>
    intro i hi x1 x2 e2 e1
    have : i = N := by omega
    subst this
    refine qq_go_ok S (fun pc => Nat.beq pc 17) 60 ?_
    conv => whnf
    refine br_t (i_ge' e2 eN (by omega) (by omega)) ?_
    conv => whnf
    rw [← e1] at hq
    exact hq
  | succ m ih =>
    intro i hi x1 x2 e2 e1
    have q2 : qn x2 = i := by rw [e2]; exact qn_nI (by omega)
    refine qq_go_ok S (fun pc => Nat.beq pc 17) 60 ?_
    conv => whnf
    refine br_f (i_lt' e2 eN (by omega) (by omega)) ?_
    conv => whnf
    refine ⟨⟨i_in 64 e2 (by omega) (by decide), by rw [q2]; exact hk i (by omega)⟩, fun x hx => ?_⟩
    have hx : ∀ g, bt x g = true ↔ cRp w (qn x2) g := hx
    rw [q2] at hx
    have ex : x = B i := b_uq hx (hB i (by omega)).2
    conv => whnf
    refine ⟨by rw [ex]; exact (hB i (by omega)).1, ?_⟩
    conv => whnf
    refine qq_wk S (ih (i + 1) (by omega) (x1 + nI (pcb x 13)) _ (i_s e2) ?_) ⟨rfl, rfl, rfl, trivial⟩
    rw [e1, ex, nI_add]
    rfl
theorem hk_X7_reports {P : Option Value → qq_w → Prop} {K : Nat → qq_L → List Value → qq_w → Prop} (S : qq_Sat ww_sh ww_ro cs_X7_reports (qq_at 47 kd_X7_reports) (some .int) P K) {pc : Nat} {lv : qq_L} {st : List Value} {w : qq_w} (h : H_X7_reports P pc lv st w) : K pc lv st w := by
  obtain ⟨rfl, rfl, hle, hp, hk, B, hB, hq⟩ := h
  obtain ⟨eN, hN⟩ := qn_eq hp (by decide)
  exact qq_wk S (rs_17 S eN (by omega) hk hB hq (qn (w.1 1 10)) 0 (Nat.zero_add _) _ _ rfl rfl) hle
theorem bd_X7_reports : ∀ As w P K, qq_Sat ww_sh ww_ro cs_X7_reports (qq_at 47 kd_X7_reports) (some .int) P K → T_X7_reports As w P → K 0 (lv_args 0 As) [] w := by
  intro As w P K S h
  unfold T_X7_reports at h
  split at h
  · exact qq_go_semi S (fun pc lv st w z => hk_X7_reports S z) h
  · exact h.elim
theorem ha_X7_reports : ∀ As w P, T_X7_reports As w P → qq_wd As ≤ 3 := by
  intro As w P h
  unfold T_X7_reports at h
  split at h
  · exact Nat.le_of_ble_eq_true rfl
  · exact h.elim
theorem hv_X7_reports : ∀ As w P, T_X7_reports As w P → ∃ (k : Nat) (r : List Value) (fs : List Nat), As = .ref k :: r ∧ ww_sh[k]? = some (.inr (7, fs)) := by
  intro As w P h
  unfold T_X7_reports at h
  split at h
  · exact ⟨_, _, _, rfl, rfl⟩
  · exact h.elim
set_option maxRecDepth 100000 in
theorem M_X7_reports (l : Launch) : qq_M l ww_T ww_N vwCl ww_sh ww_ro ww_zs yX7_reports cX7_reports 3 (some .int) (ww_rm 5) T_X7_reports := by
  refine qq_mk (host := RX7) (is := ki_X7_reports) (cs := cs_X7_reports) (by decide) ww_k1 wl_X7 ww_so ww_so2 kc_X7_reports kv_X7_reports kg_X7_reports ?_ ha_X7_reports bd_X7_reports
  intro k i q hi hq
  match k, hi, hq with
  | 0, hi, hq => cases hi; cases hq; exact fun p e s m args below meth c D tys tC ad Q pc X hdg => qq_cV (ci := 5) X ww_gd (M_X5_isDone l) kf_X5_isDone.1 (Or.inl (ww_a3 (i := 120) (w := Cond.methodLink RX7 184 yX5_isDone) rfl rfl)) kf_X5_isDone.2.1 kf_X5_isDone.2.2.1 kf_X5_isDone.2.2.2 ⟨by decide, by decide, by decide +kernel⟩ rfl rfl rfl ⟨by decide, by decide⟩ ⟨Nat.le_refl _, Nat.le_refl _⟩ hv_X5_isDone hdg
  | 1, hi, hq => cases hi; cases hq; exact fun p e s m args below meth c D tys tC ad Q pc X hdg => qq_cV (ci := 7) X ww_gd (M2_X7_reportedAt l) kf_X7_reportedAt.1 (Or.inl (ww_a4 (i := 124) (w := Cond.methodLink RX7 244 yX7_reportedAt) rfl rfl)) kf_X7_reportedAt.2.1 kf_X7_reportedAt.2.2.1 kf_X7_reportedAt.2.2.2 ⟨by decide, by decide, by decide +kernel⟩ rfl rfl rfl ⟨by decide, by decide⟩ ⟨Nat.le_refl _, Nat.le_refl _⟩ hv2_X7_reportedAt hdg
  | 2, hi, hq => cases hi; cases hq; exact fun p e s m args below meth c D tys tC ad Q pc X hdg => qq_cS X ww_gd (M_J6_bitCount_0f7a4 l) kf_J6_bitCount_0f7a4.1 (Or.inl (ww_a4 (i := 136) (w := Cond.methodLink RX7 247 yJ6_bitCount_0f7a4) rfl rfl)) kf_J6_bitCount_0f7a4.2.1 kf_J6_bitCount_0f7a4.2.2 ⟨by decide, by decide, by decide +kernel⟩ rfl rfl ⟨by decide, by decide⟩ ⟨Nat.le_refl _, Nat.le_refl _⟩ hdg
  | n + 3, hi, hq => simp [cs_X7_reports] at hq
abbrev cs_X7_report : List (Nat × qq_t) := [(2, T_X7_isWithin), (1, T_X5_isDone), (2, T2_X7_reportedAt), (2, T_X7_has)]
def H_X7_report (P : Option Value → qq_w → Prop) (pc : Nat) (lv : qq_L) (st : List Value) (w : qq_w) : Prop := pc = 28 ∧ st = [] ∧ ∃ i k, qq_le [(0, .ref 0), (1, .int i), (2, .int k), (3, .int 0), (4, .int 0)] lv ∧ vp_in (w.1 1 10) 65 ∧ (∀ n, n < qn (w.1 1 10) → cRk w n) ∧ ∃ B : Nat → Int32, (∀ n, n < qn (w.1 1 10) → fs (B n) ∧ ∀ g, bt (B n) g = true ↔ cRp w n g) ∧ (∀ n x, n < qn (w.1 1 10) → x < 13 → rpIs B i n x → P (some (.int (if k = 0 then nI n else nI x))) w) ∧ ((∀ n x, n < qn (w.1 1 10) → x < 13 → ¬ rpIs B i n x) → P (some (.int (-5))) w)
def T_X7_report : qq_t := fun As w P => match As with
  | [.ref 0, .int a0, .int a1] => qq_go ww_sh ww_ro cs_X7_report (qq_at 103 kd_X7_report) (some .int) (fun pc => Nat.beq pc 28) P (H_X7_report P) 51 0 (lv_args 0 [.ref 0, .int a0, .int a1]) [] w
  | _ => False
theorem rq_51 {P : Option Value → qq_w → Prop} {K : Nat → qq_L → List Value → qq_w → Prop} (S : qq_Sat ww_sh ww_ro cs_X7_report (qq_at 103 kd_X7_report) (some .int) P K) {w : qq_w} {B : Nat → Int32} {i k x4 x5 : Int32} {n N : Nat} (hn : n < N) (hN : N ≤ 64) (e4 : x4 = nI n) (e5 : x5 = B n) (hy : ∀ x, x < 13 → rpIs B i n x → P (some (.int (if k = 0 then nI n else nI x))) w)
    (hk : (∀ x, x < 13 → ¬ rpIs B i n x) → ∀ x3 : Int32, x3 = nI (cCount B (n + 1)) → K 28 [(0, .ref 0), (1, .int i), (2, .int k), (3, .int x3), (4, .int (x4 + 1))] [] w) :
    ∀ m j, j + m = 13 → ∀ x3 x6 : Int32, x6 = nI j → x3 = nI (cCount B n + pcb (B n) j) → (∀ x, x < j → ¬ rpIs B i n x) → K 51 [(0, .ref 0), (1, .int i), (2, .int k), (3, .int x3), (4, .int x4), (5, .int x5), (6, .int x6)] [] w := by
  intro m
  induction m with
  | zero =>
    intro j hj x3 x6 e6 e3 h1
    have : j = 13 := by omega
    subst this
    refine qq_go_ok S (fun pc => Nat.beq pc 51 || Nat.beq pc 28) 60 ?_
    conv => whnf
    refine br_t (i_ge 13 e6 (by omega) (by omega)) ?_
    conv => whnf
    exact qq_wk S (hk h1 x3 e3) ⟨rfl, rfl, rfl, rfl, rfl, trivial⟩
  | succ m ih =>
    intro j hj x3 x6 e6 e3 h1
    have hb' : (x5 >>> (x6 &&& 31)) &&& 1 = 0 ↔ bt (B n) j = false := by rw [e6, e5]; exact b_has (by omega) _
    refine qq_go_ok S (fun pc => Nat.beq pc 51 || Nat.beq pc 28) 60 ?_
    conv => whnf
    refine br_f (i_nge 13 e6 (by omega) (by omega)) ?_
    conv => whnf
    refine ⟨fun z => ?_, fun z => ?_⟩
    · have z := hb'.mp z
      conv => whnf
      refine br_t rfl ?_
      conv => whnf
      refine qq_wk S (ih (j + 1) (by omega) _ _ (i_s e6) ?_ (fun x hx y => ?_)) ⟨rfl, rfl, rfl, rfl, rfl, rfl, rfl, trivial⟩
      · rw [e3]
        congr 1
        show _ = cCount B n + (pcb (B n) j + if bt (B n) j then 1 else 0)
        rw [z]
        rfl
      · by_cases q : x = j
        · subst q
          rw [y.1] at z
          cases z
        · exact h1 x (by omega) y
    · have z := bt_not (fun y => z (hb'.mpr y))
      conv => whnf
      refine br_f (by decide) ?_
      conv => whnf
      refine ⟨fun z2 => ?_, fun z2 => ?_⟩
      · have z2 : ¬ x3 = i := z2
        conv => whnf
        refine qq_wk S (ih (j + 1) (by omega) _ _ (i_s e6) ?_ (fun x hx y => ?_)) ⟨rfl, rfl, rfl, rfl, rfl, rfl, rfl, trivial⟩
        · refine (i_s e3).trans ?_
          congr 1
          show _ = cCount B n + (pcb (B n) j + if bt (B n) j then 1 else 0)
          rw [z]
          rfl
        · by_cases q : x = j
          · subst q
            exact z2 (e3.trans y.2)
          · exact h1 x (by omega) y
      · have z2 : x3 = i := z2
        have key := hy j (by omega) ⟨z, e3.symm.trans z2⟩
        conv => whnf
        refine ⟨fun z3 => ?_, fun z3 => ?_⟩
        · conv => whnf
          rw [if_neg z3, ← e6] at key
          exact key
        · conv => whnf
          rw [if_pos z3, ← e4] at key
          exact key
theorem rq_28 {P : Option Value → qq_w → Prop} {K : Nat → qq_L → List Value → qq_w → Prop} (S : qq_Sat ww_sh ww_ro cs_X7_report (qq_at 103 kd_X7_report) (some .int) P K) {w : qq_w} {B : Nat → Int32} {i k : Int32} {N : Nat} (eN : w.1 1 10 = nI N) (hN : N ≤ 64) (hrk : ∀ n, n < N → cRk w n) (hB : ∀ n, n < N → fs (B n) ∧ ∀ g, bt (B n) g = true ↔ cRp w n g) (hy : ∀ n x, n < N → x < 13 → rpIs B i n x → P (some (.int (if k = 0 then nI n else nI x))) w) (hz : (∀ n x, n < N → x < 13 → ¬ rpIs B i n x) → P (some (.int (-5))) w) :
    ∀ m j, j + m = N → ∀ x3 x4 : Int32, x4 = nI j → x3 = nI (cCount B j) → (∀ n x, n < j → x < 13 → ¬ rpIs B i n x) → K 28 [(0, .ref 0), (1, .int i), (2, .int k), (3, .int x3), (4, .int x4)] [] w := by
  intro m
  induction m with
  | zero =>
    intro j hj x3 x4 e4 e3 h1
    have : j = N := by omega
    subst this
    refine qq_go_ok S (fun pc => Nat.beq pc 28) 60 ?_
    conv => whnf
    refine br_t (i_ge' e4 eN (by omega) (by omega)) ?_
    conv => whnf
    exact hz h1
  | succ m ih =>
    intro j hj x3 x4 e4 e3 h1
    have q4 : qn x4 = j := by rw [e4]; exact qn_nI (by omega)
    refine qq_go_ok S (fun pc => Nat.beq pc 51) 60 ?_
    conv => whnf
    refine br_f (i_lt' e4 eN (by omega) (by omega)) ?_
    conv => whnf
    refine ⟨⟨i_in 64 e4 (by omega) (by decide), by rw [q4]; exact hrk j (by omega)⟩, fun x hx => ?_⟩
    have hx : ∀ g, bt x g = true ↔ cRp w (qn x4) g := hx
    rw [q4] at hx
    have ex : x = B j := b_uq hx (hB j (by omega)).2
    conv => whnf
    refine qq_wk S (rq_51 S (n := j) (N := N) (x5 := x) (by omega) hN e4 ex (fun y hy' hr => hy j y (by omega) hy' hr) (fun hno y3 ey3 => ih (j + 1) (by omega) _ _ (i_s e4) ey3 (fun n y hn hy' => ?_)) 13 0 rfl x3 _ rfl e3 (fun y hy' => absurd hy' (by omega))) ⟨rfl, rfl, rfl, rfl, rfl, rfl, rfl, trivial⟩
    by_cases q : n = j
    · subst q; exact hno y hy'
    · exact h1 n y (by omega) hy'
theorem hk_X7_report {P : Option Value → qq_w → Prop} {K : Nat → qq_L → List Value → qq_w → Prop} (S : qq_Sat ww_sh ww_ro cs_X7_report (qq_at 103 kd_X7_report) (some .int) P K) {pc : Nat} {lv : qq_L} {st : List Value} {w : qq_w} (h : H_X7_report P pc lv st w) : K pc lv st w := by
  obtain ⟨rfl, rfl, i, k, hle, hp, hk, B, hB, hy, hz⟩ := h
  obtain ⟨eN, hN⟩ := qn_eq hp (by decide)
  exact qq_wk S (rq_28 S eN (by omega) hk hB hy hz (qn (w.1 1 10)) 0 (Nat.zero_add _) _ _ rfl rfl (fun n x hn => absurd hn (by omega))) hle
theorem bd_X7_report : ∀ As w P K, qq_Sat ww_sh ww_ro cs_X7_report (qq_at 103 kd_X7_report) (some .int) P K → T_X7_report As w P → K 0 (lv_args 0 As) [] w := by
  intro As w P K S h
  unfold T_X7_report at h
  split at h
  · exact qq_go_semi S (fun pc lv st w z => hk_X7_report S z) h
  · exact h.elim
theorem ha_X7_report : ∀ As w P, T_X7_report As w P → qq_wd As ≤ 7 := by
  intro As w P h
  unfold T_X7_report at h
  split at h
  · exact Nat.le_of_ble_eq_true rfl
  · exact h.elim
theorem hv_X7_report : ∀ As w P, T_X7_report As w P → ∃ (k : Nat) (r : List Value) (fs : List Nat), As = .ref k :: r ∧ ww_sh[k]? = some (.inr (7, fs)) := by
  intro As w P h
  unfold T_X7_report at h
  split at h
  · exact ⟨_, _, _, rfl, rfl⟩
  · exact h.elim
set_option maxRecDepth 100000 in
theorem M_X7_report (l : Launch) : qq_M l ww_T ww_N vwCl ww_sh ww_ro ww_zs yX7_report cX7_report 7 (some .int) (ww_rm 5) T_X7_report := by
  refine qq_mk (host := RX7) (is := ki_X7_report) (cs := cs_X7_report) (by decide) ww_k1 wl_X7 ww_so ww_so2 kc_X7_report kv_X7_report kg_X7_report ?_ ha_X7_report bd_X7_report
  intro k i q hi hq
  match k, hi, hq with
  | 0, hi, hq => cases hi; cases hq; exact fun p e s m args below meth c D tys tC ad Q pc X hdg => qq_cS X ww_gd (M_X7_isWithin l) kf_X7_isWithin.1 (Or.inl (ww_a2 (i := 50) (w := Cond.methodLink RX7 59 yX7_isWithin) rfl rfl)) kf_X7_isWithin.2.1 kf_X7_isWithin.2.2 ⟨by decide, by decide, by decide +kernel⟩ rfl rfl ⟨by decide, by decide⟩ ⟨Nat.le_refl _, Nat.le_refl _⟩ hdg
  | 1, hi, hq => cases hi; cases hq; exact fun p e s m args below meth c D tys tC ad Q pc X hdg => qq_cV (ci := 5) X ww_gd (M_X5_isDone l) kf_X5_isDone.1 (Or.inl (ww_a3 (i := 120) (w := Cond.methodLink RX7 184 yX5_isDone) rfl rfl)) kf_X5_isDone.2.1 kf_X5_isDone.2.2.1 kf_X5_isDone.2.2.2 ⟨by decide, by decide, by decide +kernel⟩ rfl rfl rfl ⟨by decide, by decide⟩ ⟨Nat.le_refl _, Nat.le_refl _⟩ hv_X5_isDone hdg
  | 2, hi, hq => cases hi; cases hq; exact fun p e s m args below meth c D tys tC ad Q pc X hdg => qq_cV (ci := 7) X ww_gd (M2_X7_reportedAt l) kf_X7_reportedAt.1 (Or.inl (ww_a4 (i := 124) (w := Cond.methodLink RX7 244 yX7_reportedAt) rfl rfl)) kf_X7_reportedAt.2.1 kf_X7_reportedAt.2.2.1 kf_X7_reportedAt.2.2.2 ⟨by decide, by decide, by decide +kernel⟩ rfl rfl rfl ⟨by decide, by decide⟩ ⟨Nat.le_refl _, Nat.le_refl _⟩ hv2_X7_reportedAt hdg
  | 3, hi, hq => cases hi; cases hq; exact fun p e s m args below meth c D tys tC ad Q pc X hdg => qq_cS X ww_gd (M_X7_has l) kf_X7_has.1 (Or.inl (ww_a3 (i := 175) (w := Cond.methodLink RX7 210 yX7_has) rfl rfl)) kf_X7_has.2.1 kf_X7_has.2.2 ⟨by decide, by decide, by decide +kernel⟩ rfl rfl ⟨by decide, by decide⟩ ⟨Nat.le_refl _, Nat.le_refl _⟩ hdg
  | n + 4, hi, hq => simp [cs_X7_report] at hq
abbrev cs_X7_digest : List (Nat × qq_t) := [(2, T_X3_digested), (1, T_X5_isDone), (2, T_X5_holding)]
def H_X7_digest (P : Option Value → qq_w → Prop) (pc : Nat) (lv : qq_L) (st : List Value) (w : qq_w) : Prop := pc = 38 ∧ st = [] ∧ ∃ h0, qq_le [(0, .ref 0), (1, .long h0), (3, .int 0)] lv ∧ vp_in (w.1 1 10) 65 ∧ P (some (.long (fold31 (fun n => qq_or (w.1 20) (13 * n) 13) (qn (w.1 1 10)) h0))) w
def T_X7_digest : qq_t := fun As w P => match As with
  | [.ref 0] => qq_go ww_sh ww_ro cs_X7_digest (qq_at 73 kd_X7_digest) (some .long) (fun pc => Nat.beq pc 38) P (H_X7_digest P) 40 0 (lv_args 0 [.ref 0]) [] w
  | _ => False
theorem dx_38 {P : Option Value → qq_w → Prop} {K : Nat → qq_L → List Value → qq_w → Prop} (S : qq_Sat ww_sh ww_ro cs_X7_digest (qq_at 73 kd_X7_digest) (some .long) P K) {w : qq_w} {N : Nat} {h0 : Int64} (eN : w.1 1 10 = nI N) (hN : N ≤ 64) (hq : P (some (.long (fold31 (fun n => qq_or (w.1 20) (13 * n) 13) N h0))) w) :
    ∀ m i, i + m = N → ∀ (x1 : Int64) (x3 : Int32), x3 = nI i → x1 = fold31 (fun n => qq_or (w.1 20) (13 * n) 13) i h0 → K 38 [(0, .ref 0), (1, .long x1), (3, .int x3)] [] w := by
  intro m
  induction m with
  | zero =>
    intro i hi x1 x3 e3 e1
    have : i = N := by omega
    subst this
    refine qq_go_ok S (fun pc => Nat.beq pc 38) 60 ?_
    conv => whnf
    refine br_t (i_ge' e3 eN (by omega) (by omega)) ?_
    conv => whnf
    rw [← e1] at hq
    exact hq
  | succ m ih =>
    intro i hi x1 x3 e3 e1
    have q3 : qn x3 = i := by rw [e3]; exact qn_nI (by omega)
    refine qq_go_ok S (fun pc => Nat.beq pc 38) 60 ?_
    conv => whnf
    refine br_f (i_lt' e3 eN (by omega) (by omega)) ?_
    conv => whnf
    refine ⟨i_in 64 e3 (by omega) (by decide), ?_⟩
    conv => whnf
    refine qq_wk S (ih (i + 1) (by omega) (31 * x1 + (qq_or (w.1 20) (13 * qn x3) 13).toInt64) _ (i_s e3) ?_) ⟨rfl, rfl, rfl, trivial⟩
    rw [e1, q3]
    rfl
theorem hk_X7_digest {P : Option Value → qq_w → Prop} {K : Nat → qq_L → List Value → qq_w → Prop} (S : qq_Sat ww_sh ww_ro cs_X7_digest (qq_at 73 kd_X7_digest) (some .long) P K) {pc : Nat} {lv : qq_L} {st : List Value} {w : qq_w} (h : H_X7_digest P pc lv st w) : K pc lv st w := by
  obtain ⟨rfl, rfl, h0, hle, hp, hq⟩ := h
  obtain ⟨eN, hN⟩ := qn_eq hp (by decide)
  exact qq_wk S (dx_38 S eN (by omega) hq (qn (w.1 1 10)) 0 (Nat.zero_add _) _ _ rfl rfl) hle
theorem bd_X7_digest : ∀ As w P K, qq_Sat ww_sh ww_ro cs_X7_digest (qq_at 73 kd_X7_digest) (some .long) P K → T_X7_digest As w P → K 0 (lv_args 0 As) [] w := by
  intro As w P K S h
  unfold T_X7_digest at h
  split at h
  · exact qq_go_semi S (fun pc lv st w z => hk_X7_digest S z) h
  · exact h.elim
theorem ha_X7_digest : ∀ As w P, T_X7_digest As w P → qq_wd As ≤ 4 := by
  intro As w P h
  unfold T_X7_digest at h
  split at h
  · exact Nat.le_of_ble_eq_true rfl
  · exact h.elim
theorem hv_X7_digest : ∀ As w P, T_X7_digest As w P → ∃ (k : Nat) (r : List Value) (fs : List Nat), As = .ref k :: r ∧ ww_sh[k]? = some (.inr (7, fs)) := by
  intro As w P h
  unfold T_X7_digest at h
  split at h
  · exact ⟨_, _, _, rfl, rfl⟩
  · exact h.elim
set_option maxRecDepth 100000 in
theorem M_X7_digest (l : Launch) : qq_M l ww_T ww_N vwCl ww_sh ww_ro ww_zs yX7_digest cX7_digest 4 (some .long) (ww_rm 3) T_X7_digest := by
  refine qq_mk (host := RX7) (is := ki_X7_digest) (cs := cs_X7_digest) (by decide) ww_k1 wl_X7 ww_so ww_so2 kc_X7_digest kv_X7_digest kg_X7_digest ?_ ha_X7_digest bd_X7_digest
  intro k i q hi hq
  match k, hi, hq with
  | 0, hi, hq => cases hi; cases hq; exact fun p e s m args below meth c D tys tC ad Q pc X hdg => qq_cV (ci := 3) X ww_gd (M_X3_digested l) kf_X3_digested.1 (Or.inl (ww_a4 (i := 158) (w := Cond.methodLink RX7 266 yX3_digested) rfl rfl)) kf_X3_digested.2.1 kf_X3_digested.2.2.1 kf_X3_digested.2.2.2 ⟨by decide, by decide, by decide +kernel⟩ rfl rfl rfl ⟨by decide, by decide⟩ ⟨Nat.le_refl _, Nat.le_refl _⟩ hv_X3_digested hdg
  | 1, hi, hq => cases hi; cases hq; exact fun p e s m args below meth c D tys tC ad Q pc X hdg => qq_cV (ci := 5) X ww_gd (M_X5_isDone l) kf_X5_isDone.1 (Or.inl (ww_a3 (i := 120) (w := Cond.methodLink RX7 184 yX5_isDone) rfl rfl)) kf_X5_isDone.2.1 kf_X5_isDone.2.2.1 kf_X5_isDone.2.2.2 ⟨by decide, by decide, by decide +kernel⟩ rfl rfl rfl ⟨by decide, by decide⟩ ⟨Nat.le_refl _, Nat.le_refl _⟩ hv_X5_isDone hdg
  | 2, hi, hq => cases hi; cases hq; exact fun p e s m args below meth c D tys tC ad Q pc X hdg => qq_cV (ci := 5) X ww_gd (M_X5_holding l) kf_X5_holding.1 (Or.inl (ww_a3 (i := 128) (w := Cond.methodLink RX7 187 yX5_holding) rfl rfl)) kf_X5_holding.2.1 kf_X5_holding.2.2.1 kf_X5_holding.2.2.2 ⟨by decide, by decide, by decide +kernel⟩ rfl rfl rfl ⟨by decide, by decide⟩ ⟨Nat.le_refl _, Nat.le_refl _⟩ hv_X5_holding hdg
  | n + 3, hi, hq => simp [cs_X7_digest] at hq
abbrev cs_X7_length : List (Nat × qq_t) := [(3, T_X3_hasState), (1, T_X5_isDone), (2, T_X5_holding), (2, T_X7_has), (1, T_X2_find), (3, T_X2_whole)]
def T_X7_length : qq_t := fun As w P => match As with
  | [.ref 0, .int a0, .int a1] => qq_go ww_sh ww_ro cs_X7_length (qq_at 66 kd_X7_length) (some .long) (fun _ => false) P qq_no 33 0 (lv_args 0 [.ref 0, .int a0, .int a1]) [] w
  | _ => False
theorem bd_X7_length : ∀ As w P K, qq_Sat ww_sh ww_ro cs_X7_length (qq_at 66 kd_X7_length) (some .long) P K → T_X7_length As w P → K 0 (lv_args 0 As) [] w := by
  intro As w P K S h
  unfold T_X7_length at h
  split at h
  · exact qq_go_all S h
  · exact h.elim
theorem ha_X7_length : ∀ As w P, T_X7_length As w P → qq_wd As ≤ 3 := by
  intro As w P h
  unfold T_X7_length at h
  split at h
  · exact Nat.le_of_ble_eq_true rfl
  · exact h.elim
theorem hv_X7_length : ∀ As w P, T_X7_length As w P → ∃ (k : Nat) (r : List Value) (fs : List Nat), As = .ref k :: r ∧ ww_sh[k]? = some (.inr (7, fs)) := by
  intro As w P h
  unfold T_X7_length at h
  split at h
  · exact ⟨_, _, _, rfl, rfl⟩
  · exact h.elim
set_option maxRecDepth 100000 in
theorem M_X7_length (l : Launch) : qq_M l ww_T ww_N vwCl ww_sh ww_ro ww_zs yX7_length cX7_length 3 (some .long) (ww_rm 7) T_X7_length := by
  refine qq_mk (host := RX7) (is := ki_X7_length) (cs := cs_X7_length) (by decide) ww_k1 wl_X7 ww_so ww_so2 kc_X7_length kv_X7_length kg_X7_length ?_ ha_X7_length bd_X7_length
  intro k i q hi hq
  match k, hi, hq with
  | 0, hi, hq => cases hi; cases hq; exact fun p e s m args below meth c D tys tC ad Q pc X hdg => qq_cV (ci := 3) X ww_gd (M_X3_hasState l) kf_X3_hasState.1 (Or.inl (ww_a2 (i := 196) (w := Cond.methodLink RX7 170 yX3_hasState) rfl rfl)) kf_X3_hasState.2.1 kf_X3_hasState.2.2.1 kf_X3_hasState.2.2.2 ⟨by decide, by decide, by decide +kernel⟩ rfl rfl rfl ⟨by decide, by decide⟩ ⟨Nat.le_refl _, Nat.le_refl _⟩ hv_X3_hasState hdg
  | 1, hi, hq => cases hi; cases hq; exact fun p e s m args below meth c D tys tC ad Q pc X hdg => qq_cV (ci := 5) X ww_gd (M_X5_isDone l) kf_X5_isDone.1 (Or.inl (ww_a3 (i := 120) (w := Cond.methodLink RX7 184 yX5_isDone) rfl rfl)) kf_X5_isDone.2.1 kf_X5_isDone.2.2.1 kf_X5_isDone.2.2.2 ⟨by decide, by decide, by decide +kernel⟩ rfl rfl rfl ⟨by decide, by decide⟩ ⟨Nat.le_refl _, Nat.le_refl _⟩ hv_X5_isDone hdg
  | 2, hi, hq => cases hi; cases hq; exact fun p e s m args below meth c D tys tC ad Q pc X hdg => qq_cV (ci := 5) X ww_gd (M_X5_holding l) kf_X5_holding.1 (Or.inl (ww_a3 (i := 128) (w := Cond.methodLink RX7 187 yX5_holding) rfl rfl)) kf_X5_holding.2.1 kf_X5_holding.2.2.1 kf_X5_holding.2.2.2 ⟨by decide, by decide, by decide +kernel⟩ rfl rfl rfl ⟨by decide, by decide⟩ ⟨Nat.le_refl _, Nat.le_refl _⟩ hv_X5_holding hdg
  | 3, hi, hq => cases hi; cases hq; exact fun p e s m args below meth c D tys tC ad Q pc X hdg => qq_cS X ww_gd (M_X7_has l) kf_X7_has.1 (Or.inl (ww_a3 (i := 175) (w := Cond.methodLink RX7 210 yX7_has) rfl rfl)) kf_X7_has.2.1 kf_X7_has.2.2 ⟨by decide, by decide, by decide +kernel⟩ rfl rfl ⟨by decide, by decide⟩ ⟨Nat.le_refl _, Nat.le_refl _⟩ hdg
  | 4, hi, hq => cases hi; cases hq; exact fun p e s m args below meth c D tys tC ad Q pc X hdg => qq_cV (ci := 2) X ww_gd (M_X2_find l) kf_X2_find.1 (Or.inl (ww_a3 (i := 177) (w := Cond.methodLink RX7 215 yX2_find) rfl rfl)) kf_X2_find.2.1 kf_X2_find.2.2.1 kf_X2_find.2.2.2 ⟨by decide, by decide, by decide +kernel⟩ rfl rfl rfl ⟨by decide, by decide⟩ ⟨Nat.le_refl _, Nat.le_refl _⟩ hv_X2_find hdg
  | 5, hi, hq => cases hi; cases hq; exact fun p e s m args below meth c D tys tC ad Q pc X hdg => qq_cV (ci := 2) X ww_gd (M_X2_whole l) kf_X2_whole.1 (Or.inl (ww_a4 (i := 43) (w := Cond.methodLink RX7 218 yX2_whole) rfl rfl)) kf_X2_whole.2.1 kf_X2_whole.2.2.1 kf_X2_whole.2.2.2 ⟨by decide, by decide, by decide +kernel⟩ rfl rfl rfl ⟨by decide, by decide⟩ ⟨Nat.le_refl _, Nat.le_refl _⟩ hv_X2_whole hdg
  | n + 6, hi, hq => simp [cs_X7_length] at hq
abbrev cs_X7_track : List (Nat × qq_t) := [(3, T_X3_hasState), (1, T_X5_isDone), (2, T_X5_holding), (2, T_X7_has), (1, T_X2_find), (3, T_X2_whole), (3, T_X6_lay)]
def T_X7_track : qq_t := fun As w P => match As with
  | [.ref 0, .int a0, .int a1] => qq_go ww_sh ww_ro cs_X7_track (qq_at 85 kd_X7_track) (some .int) (fun _ => false) P qq_no 44 0 (lv_args 0 [.ref 0, .int a0, .int a1]) [] w
  | _ => False
theorem bd_X7_track : ∀ As w P K, qq_Sat ww_sh ww_ro cs_X7_track (qq_at 85 kd_X7_track) (some .int) P K → T_X7_track As w P → K 0 (lv_args 0 As) [] w := by
  intro As w P K S h
  unfold T_X7_track at h
  split at h
  · exact qq_go_all S h
  · exact h.elim
theorem ha_X7_track : ∀ As w P, T_X7_track As w P → qq_wd As ≤ 3 := by
  intro As w P h
  unfold T_X7_track at h
  split at h
  · exact Nat.le_of_ble_eq_true rfl
  · exact h.elim
theorem hv_X7_track : ∀ As w P, T_X7_track As w P → ∃ (k : Nat) (r : List Value) (fs : List Nat), As = .ref k :: r ∧ ww_sh[k]? = some (.inr (7, fs)) := by
  intro As w P h
  unfold T_X7_track at h
  split at h
  · exact ⟨_, _, _, rfl, rfl⟩
  · exact h.elim
set_option maxRecDepth 100000 in
theorem M_X7_track (l : Launch) : qq_M l ww_T ww_N vwCl ww_sh ww_ro ww_zs yX7_track cX7_track 3 (some .int) (ww_rm 7) T_X7_track := by
  refine qq_mk (host := RX7) (is := ki_X7_track) (cs := cs_X7_track) (by decide) ww_k1 wl_X7 ww_so ww_so2 kc_X7_track kv_X7_track kg_X7_track ?_ ha_X7_track bd_X7_track
  intro k i q hi hq
  match k, hi, hq with
  | 0, hi, hq => cases hi; cases hq; exact fun p e s m args below meth c D tys tC ad Q pc X hdg => qq_cV (ci := 3) X ww_gd (M_X3_hasState l) kf_X3_hasState.1 (Or.inl (ww_a2 (i := 196) (w := Cond.methodLink RX7 170 yX3_hasState) rfl rfl)) kf_X3_hasState.2.1 kf_X3_hasState.2.2.1 kf_X3_hasState.2.2.2 ⟨by decide, by decide, by decide +kernel⟩ rfl rfl rfl ⟨by decide, by decide⟩ ⟨Nat.le_refl _, Nat.le_refl _⟩ hv_X3_hasState hdg
  | 1, hi, hq => cases hi; cases hq; exact fun p e s m args below meth c D tys tC ad Q pc X hdg => qq_cV (ci := 5) X ww_gd (M_X5_isDone l) kf_X5_isDone.1 (Or.inl (ww_a3 (i := 120) (w := Cond.methodLink RX7 184 yX5_isDone) rfl rfl)) kf_X5_isDone.2.1 kf_X5_isDone.2.2.1 kf_X5_isDone.2.2.2 ⟨by decide, by decide, by decide +kernel⟩ rfl rfl rfl ⟨by decide, by decide⟩ ⟨Nat.le_refl _, Nat.le_refl _⟩ hv_X5_isDone hdg
  | 2, hi, hq => cases hi; cases hq; exact fun p e s m args below meth c D tys tC ad Q pc X hdg => qq_cV (ci := 5) X ww_gd (M_X5_holding l) kf_X5_holding.1 (Or.inl (ww_a3 (i := 128) (w := Cond.methodLink RX7 187 yX5_holding) rfl rfl)) kf_X5_holding.2.1 kf_X5_holding.2.2.1 kf_X5_holding.2.2.2 ⟨by decide, by decide, by decide +kernel⟩ rfl rfl rfl ⟨by decide, by decide⟩ ⟨Nat.le_refl _, Nat.le_refl _⟩ hv_X5_holding hdg
  | 3, hi, hq => cases hi; cases hq; exact fun p e s m args below meth c D tys tC ad Q pc X hdg => qq_cS X ww_gd (M_X7_has l) kf_X7_has.1 (Or.inl (ww_a3 (i := 175) (w := Cond.methodLink RX7 210 yX7_has) rfl rfl)) kf_X7_has.2.1 kf_X7_has.2.2 ⟨by decide, by decide, by decide +kernel⟩ rfl rfl ⟨by decide, by decide⟩ ⟨Nat.le_refl _, Nat.le_refl _⟩ hdg
  | 4, hi, hq => cases hi; cases hq; exact fun p e s m args below meth c D tys tC ad Q pc X hdg => qq_cV (ci := 2) X ww_gd (M_X2_find l) kf_X2_find.1 (Or.inl (ww_a3 (i := 177) (w := Cond.methodLink RX7 215 yX2_find) rfl rfl)) kf_X2_find.2.1 kf_X2_find.2.2.1 kf_X2_find.2.2.2 ⟨by decide, by decide, by decide +kernel⟩ rfl rfl rfl ⟨by decide, by decide⟩ ⟨Nat.le_refl _, Nat.le_refl _⟩ hv_X2_find hdg
  | 5, hi, hq => cases hi; cases hq; exact fun p e s m args below meth c D tys tC ad Q pc X hdg => qq_cV (ci := 2) X ww_gd (M_X2_whole l) kf_X2_whole.1 (Or.inl (ww_a4 (i := 43) (w := Cond.methodLink RX7 218 yX2_whole) rfl rfl)) kf_X2_whole.2.1 kf_X2_whole.2.2.1 kf_X2_whole.2.2.2 ⟨by decide, by decide, by decide +kernel⟩ rfl rfl rfl ⟨by decide, by decide⟩ ⟨Nat.le_refl _, Nat.le_refl _⟩ hv_X2_whole hdg
  | 6, hi, hq => cases hi; cases hq; exact fun p e s m args below meth c D tys tC ad Q pc X hdg => qq_cV (ci := 6) X ww_gd (M_X6_lay l) kf_X6_lay.1 (Or.inl (ww_a4 (i := 52) (w := Cond.methodLink RX7 224 yX6_lay) rfl rfl)) kf_X6_lay.2.1 kf_X6_lay.2.2.1 kf_X6_lay.2.2.2 ⟨by decide, by decide, by decide +kernel⟩ rfl rfl rfl ⟨by decide, by decide⟩ ⟨Nat.le_refl _, Nat.le_refl _⟩ hv_X6_lay hdg
  | n + 7, hi, hq => simp [cs_X7_track] at hq
