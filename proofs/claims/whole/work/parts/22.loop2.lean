theorem qq_only_ui {ps : List Nat} {w w1 : qq_w} {k j : Nat} {x : Int32} (h : qq_only ps w w1) (hk : k ∈ ps) : qq_only ps w (qq_ui w1 k j x) := by
  refine ⟨h.1, fun q hq => ?_⟩
  have hq' : q ≠ k := fun z => hq (z ▸ hk)
  simp only [qq_ui, va_up, hq', if_false]
  exact h.2 q hq
theorem qq_only_rf {ps : List Nat} {w : qq_w} : qq_only ps w w := ⟨rfl, fun _ _ => rfl⟩
theorem qq_only_tr {ps : List Nat} {w w1 w2 : qq_w} (h : qq_only ps w w1) (h2 : qq_only ps w1 w2) : qq_only ps w w2 := ⟨h2.1.trans h.1, fun q hq => (h2.2 q hq).trans (h.2 q hq)⟩
theorem qq_only_up {ps qs : List Nat} {w w1 : qq_w} (h : qq_only ps w w1) (hs : ∀ q ∈ ps, q ∈ qs) : qq_only qs w w1 := ⟨h.1, fun q hq => h.2 q (fun z => hq (hs q z))⟩
theorem upd_at (f : Nat → Int32) (k j : Nat) (x : Int32) : upd f k x j = if j = k then x else f j := rfl
theorem i_lt' {x y : Int32} {i n : Nat} (e : x = nI i) (e2 : y = nI n) (h : i < n) (hn : n < 2 ^ 31) : ¬ y ≤ x := by rw [e, e2]; exact nI_ge h hn
theorem i_ge' {x y : Int32} {i n : Nat} (e : x = nI i) (e2 : y = nI n) (h : n ≤ i) (hi : i < 2 ^ 31) : y ≤ x := by rw [e, e2]; exact nI_le h hi
abbrev cs_X3_edgeBetween : List (Nat × qq_t) := []
/-- the first place of two rows that holds two numbers -/
def qq_find2 (f g : Nat → Int32) (a b : Int32) : Nat → Nat → Int32
  | 0, _ => -5
  | m + 1, i => if f i = a ∧ g i = b then nI i else qq_find2 f g a b m (i + 1)
def T_X3_edgeBetween : qq_t := fun As w P => match As with
  | [.ref 1, .int a, .int b] => vp_in (w.1 1 11) 121 ∧ P (some (.int (qq_find2 (w.1 15) (w.1 16) a b (qn (w.1 1 11)) 0))) w
  | _ => False
theorem lp_edgeBetween {P : Option Value → qq_w → Prop} {K : Nat → qq_L → List Value → qq_w → Prop} (S : qq_Sat ww_sh ww_ro cs_X3_edgeBetween (qq_at 41 kd_X3_edgeBetween) (some .int) P K) {w : qq_w} {a b : Int32} {n : Nat} (hn : n ≤ 120) (en : w.1 1 11 = nI n) :
    ∀ m i, i + m = n → ∀ x3 : Int32, x3 = nI i → P (some (.int (qq_find2 (w.1 15) (w.1 16) a b m i))) w → K 2 [(0, .ref 1), (1, .int a), (2, .int b), (3, .int x3)] [] w := by
  intro m
  induction m with
  | zero =>
    intro i hi x3 e3 hq
    refine qq_go_ok S (fun pc => Nat.beq pc 2) 40 ?_
    conv => whnf
    refine ⟨fun _ => hq, fun h => absurd (i_ge' e3 en (by omega) (by omega)) h⟩
  | succ m ih =>
    intro i hi x3 e3 hq
    refine qq_go_ok S (fun pc => Nat.beq pc 2) 40 ?_
    conv => whnf
    refine ⟨fun h => absurd h (i_lt' e3 en (by omega) (by omega)), fun _ => ?_⟩
    conv => whnf
    refine ⟨i_in 120 e3 (by omega) (by decide), ?_⟩
    conv => whnf
    have ec := i_c e3 (by omega)
    refine ⟨fun h => ?_, fun h => ?_⟩
    · conv => whnf
      refine qq_wk S (ih (i + 1) (by omega) _ (i_s e3) ?_) ⟨rfl, rfl, rfl, rfl, trivial⟩
      have h : ¬ w.1 15 x3.toNatClampNeg = a := h
      rw [ec] at h
      unfold qq_find2 at hq
      rw [if_neg (fun z => h z.1)] at hq
      exact hq
    · conv => whnf
      have h : w.1 15 x3.toNatClampNeg = a := h
      rw [ec] at h
      refine ⟨i_in 120 e3 (by omega) (by decide), ?_⟩
      conv => whnf
      refine ⟨fun h2 => ?_, fun h2 => ?_⟩
      · conv => whnf
        refine qq_wk S (ih (i + 1) (by omega) _ (i_s e3) ?_) ⟨rfl, rfl, rfl, rfl, trivial⟩
        have h2 : ¬ w.1 16 x3.toNatClampNeg = b := h2
        rw [ec] at h2
        unfold qq_find2 at hq
        rw [if_neg (fun z => h2 z.2)] at hq
        exact hq
      · conv => whnf
        have h2 : w.1 16 x3.toNatClampNeg = b := h2
        rw [ec] at h2
        unfold qq_find2 at hq
        rw [if_pos ⟨h, h2⟩, ← e3] at hq
        exact hq
set_option maxHeartbeats 4000000 in
set_option maxRecDepth 100000 in
theorem bd_X3_edgeBetween : ∀ As w P K, qq_Sat ww_sh ww_ro cs_X3_edgeBetween (qq_at 41 kd_X3_edgeBetween) (some .int) P K → T_X3_edgeBetween As w P → K 0 (lv_args 0 As) [] w := by
  intro As w P K S h
  unfold T_X3_edgeBetween at h
  split at h
  · rename_i a b
    obtain ⟨hp, hq⟩ := h
    obtain ⟨ea, ha⟩ := qn_eq hp (by decide)
    refine qq_go_ok S (fun pc => Nat.beq pc 2) 60 ?_
    conv => whnf
    exact qq_wk S (lp_edgeBetween S (by omega) ea _ 0 (by omega) _ rfl hq) ⟨rfl, rfl, rfl, rfl, trivial⟩
  · exact h.elim
theorem ha_X3_edgeBetween : ∀ As w P, T_X3_edgeBetween As w P → qq_wd As ≤ 4 := by
  intro As w P h
  unfold T_X3_edgeBetween at h
  split at h
  · exact Nat.le_of_ble_eq_true rfl
  · exact h.elim
theorem hv_X3_edgeBetween : ∀ As w P, T_X3_edgeBetween As w P → ∃ (k : Nat) (r : List Value) (fs : List Nat), As = .ref k :: r ∧ ww_sh[k]? = some (.inr (3, fs)) := by
  intro As w P h
  unfold T_X3_edgeBetween at h
  split at h
  · exact ⟨_, _, _, rfl, rfl⟩
  · exact h.elim
set_option maxRecDepth 100000 in
theorem M_X3_edgeBetween (l : Launch) : qq_M l ww_T ww_N vwCl ww_sh ww_ro ww_zs yX3_edgeBetween cX3_edgeBetween 4 (some .int) (ww_rm 0) T_X3_edgeBetween := by
  refine qq_mk (host := RX7) (is := ki_X3_edgeBetween) (cs := cs_X3_edgeBetween) (by decide) ww_k1 wl_X3 ww_so ww_so2 kc_X3_edgeBetween kv_X3_edgeBetween kg_X3_edgeBetween ?_ ha_X3_edgeBetween bd_X3_edgeBetween
  intro k i q hi hq
  simp [cs_X3_edgeBetween] at hq
abbrev cs_X3_isCallWhole : List (Nat × qq_t) := [(3, T_X3_of)]
/-- none of some places of a row holds -5 -/
def qq_full (f : Nat → Int32) (b r : Nat) : Prop := ∀ k, k < r → ¬ f (b + k) = -5
def T_X3_isCallWhole : qq_t := fun As w P => match As with
  | [.ref 1, .int a] => (vp_in a 64 ∧ vp_in (w.1 13 (10 * qn a + 8)) 5 ∧ vp_in (w.1 13 (10 * qn a + 5)) 8) ∧ (qq_full (w.1 14) (4 * qn a) (qn (w.1 13 (10 * qn a + 8))) ∧ w.1 13 (10 * qn a + 8) = w.1 10 (qn (w.1 13 (10 * qn a + 5))) → P (some (.int 1)) w) ∧ (¬ (qq_full (w.1 14) (4 * qn a) (qn (w.1 13 (10 * qn a + 8))) ∧ w.1 13 (10 * qn a + 8) = w.1 10 (qn (w.1 13 (10 * qn a + 5)))) → P (some (.int 0)) w)
  | _ => False
theorem lp_isCallWhole {P : Option Value → qq_w → Prop} {K : Nat → qq_L → List Value → qq_w → Prop} (S : qq_Sat ww_sh ww_ro cs_X3_isCallWhole (qq_at 59 kd_X3_isCallWhole) (some .boolean) P K) {w : qq_w} {a x2 : Int32} {n r c : Nat} (ha : a = nI n) (hn : n < 64) (e2 : x2 = nI r) (hr : r < 5) (ec : w.1 13 (10 * n + 5) = nI c) (hc : c < 8)
    (h1 : qq_full (w.1 14) (4 * n) r ∧ x2 = w.1 10 c → P (some (.int 1)) w) (h0 : ¬ (qq_full (w.1 14) (4 * n) r ∧ x2 = w.1 10 c) → P (some (.int 0)) w) :
    ∀ m i, i + m = r → qq_full (w.1 14) (4 * n) i → ∀ x3 : Int32, x3 = nI i → K 10 [(0, .ref 1), (1, .int a), (2, .int x2), (3, .int x3)] [] w := by
  intro m
  induction m with
  | zero =>
    intro i hi hf x3 e3
    have hir : i = r := by omega
    subst hir
    refine qq_go_ok S (fun pc => Nat.beq pc 10) 60 ?_
    conv => whnf
    refine ⟨fun _ => ?_, fun h => absurd (i_ge' e3 e2 (by omega) (by omega)) h⟩
    conv => whnf
    have e := nI_ml ha (x := 5) (i := 5) rfl (nI_lit 10)
    refine ⟨i_in 640 e (by omega) (by decide), ?_⟩
    conv => whnf
    have ev : w.1 13 (a * 10 + 5).toNatClampNeg = nI c := by rw [i_c e (by omega)]; exact ec
    refine ⟨i_in 8 ev (by omega) (by decide), ?_⟩
    conv => whnf
    refine ⟨fun h => ?_, fun h => ?_⟩
    · have h : ¬ x2 = w.1 10 (w.1 13 (a * 10 + 5).toNatClampNeg).toNatClampNeg := h
      rw [i_c ev (by omega)] at h
      exact h0 fun z => h z.2
    · have h : x2 = w.1 10 (w.1 13 (a * 10 + 5).toNatClampNeg).toNatClampNeg := h
      rw [i_c ev (by omega)] at h
      exact h1 ⟨hf, h⟩
  | succ m ih =>
    intro i hi hf x3 e3
    refine qq_go_ok S (fun pc => Nat.beq pc 10) 60 ?_
    conv => whnf
    refine ⟨fun h => absurd h (i_lt' e3 e2 (by omega) (by omega)), fun _ => ?_⟩
    conv => whnf
    have e := nI_ml ha e3 (nI_lit 4)
    refine ⟨i_in 256 e (by omega) (by decide), ?_⟩
    conv => whnf
    have ee : w.1 14 (a * 4 + x3).toNatClampNeg = w.1 14 (4 * n + i) := by rw [i_c e (by omega)]
    refine ⟨fun h => ?_, fun h => ?_⟩
    · conv => whnf
      have h : ¬ w.1 14 (a * 4 + x3).toNatClampNeg = -5 := h
      rw [ee] at h
      refine qq_wk S (ih (i + 1) (by omega) (fun k hk => ?_) _ (i_s e3)) ⟨rfl, rfl, rfl, rfl, trivial⟩
      by_cases hki : k = i
      · rw [hki]; exact h
      · exact hf k (by omega)
    · have h : w.1 14 (a * 4 + x3).toNatClampNeg = -5 := h
      rw [ee] at h
      exact h0 fun z => z.1 i (by omega) h
set_option maxHeartbeats 4000000 in
set_option maxRecDepth 100000 in
theorem bd_X3_isCallWhole : ∀ As w P K, qq_Sat ww_sh ww_ro cs_X3_isCallWhole (qq_at 59 kd_X3_isCallWhole) (some .boolean) P K → T_X3_isCallWhole As w P → K 0 (lv_args 0 As) [] w := by
  intro As w P K S h
  unfold T_X3_isCallWhole at h
  split at h
  · rename_i a
    obtain ⟨⟨hp, hp2, hp3⟩, hq1, hq0⟩ := h
    obtain ⟨ea, ha⟩ := qn_eq hp (by decide)
    obtain ⟨er, hr⟩ := qn_eq hp2 (by decide)
    obtain ⟨ec, hc⟩ := qn_eq hp3 (by decide)
    refine qq_go_ok S (fun pc => Nat.beq pc 10) 60 ?_
    conv => whnf
    have e := nI_ml ea (x := 8) (i := 8) rfl (nI_lit 10)
    refine ⟨i_in 640 e (by omega) (by decide), ?_⟩
    conv => whnf
    refine qq_wk S (lp_isCallWhole S ea ha er hr ec hc hq1 hq0 (qn (w.1 13 (10 * qn a + 8))) 0 (Nat.zero_add _) (fun k hk => absurd hk (by omega)) _ rfl) ⟨rfl, rfl, ?_, rfl, trivial⟩
    show some (Value.int (w.1 13 (a * 10 + 8).toNatClampNeg)) = _
    rw [i_c e (by omega)]
  · exact h.elim
theorem ha_X3_isCallWhole : ∀ As w P, T_X3_isCallWhole As w P → qq_wd As ≤ 4 := by
  intro As w P h
  unfold T_X3_isCallWhole at h
  split at h
  · exact Nat.le_of_ble_eq_true rfl
  · exact h.elim
theorem hv_X3_isCallWhole : ∀ As w P, T_X3_isCallWhole As w P → ∃ (k : Nat) (r : List Value) (fs : List Nat), As = .ref k :: r ∧ ww_sh[k]? = some (.inr (3, fs)) := by
  intro As w P h
  unfold T_X3_isCallWhole at h
  split at h
  · exact ⟨_, _, _, rfl, rfl⟩
  · exact h.elim
set_option maxRecDepth 100000 in
theorem M_X3_isCallWhole (l : Launch) : qq_M l ww_T ww_N vwCl ww_sh ww_ro ww_zs yX3_isCallWhole cX3_isCallWhole 4 (some .boolean) (ww_rm 1) T_X3_isCallWhole := by
  refine qq_mk (host := RX7) (is := ki_X3_isCallWhole) (cs := cs_X3_isCallWhole) (by decide) ww_k1 wl_X3 ww_so ww_so2 kc_X3_isCallWhole kv_X3_isCallWhole kg_X3_isCallWhole ?_ ha_X3_isCallWhole bd_X3_isCallWhole
  intro k i q hi hq
  match k, hi, hq with
  | 0, hi, hq => cases hi; cases hq; exact fun p e s m args below meth c D tys tC ad Q pc X hdg => qq_cV (ci := 3) X ww_gd (M_X3_of l) kf_X3_of.1 (Or.inl (ww_a2 (i := 144) (w := Cond.methodLink RX3 58 yX3_of) rfl rfl)) kf_X3_of.2.1 kf_X3_of.2.2.1 kf_X3_of.2.2.2 ⟨by decide, by decide, by decide +kernel⟩ rfl rfl rfl ⟨by decide, by decide⟩ ⟨Nat.le_refl _, Nat.le_refl _⟩ hv_X3_of hdg
  | n + 1, hi, hq => simp [cs_X3_isCallWhole] at hq
abbrev cs_X1_hasRows : List (Nat × qq_t) := [(2, T_X1_rowAt)]
/-- some place of a row holds another number than one -/
def qq_some1 (f : Nat → Int32) (b n : Nat) (x : Int32) : Prop := ∃ k, k < n ∧ ¬ f (b + k) = x
def T_X1_hasRows : qq_t := fun As w P => match As with
  | [.ref 2, .int a, .int b] => (vp_in a 64 ∧ vp_in b 3) ∧ (qq_some1 (w.1 18) (39 * qn a + 13 * qn b) 13 (-1) → P (some (.int 1)) w) ∧ (¬ qq_some1 (w.1 18) (39 * qn a + 13 * qn b) 13 (-1) → P (some (.int 0)) w)
  | _ => False
theorem lp_hasRows {P : Option Value → qq_w → Prop} {K : Nat → qq_L → List Value → qq_w → Prop} (S : qq_Sat ww_sh ww_ro cs_X1_hasRows (qq_at 39 kd_X1_hasRows) (some .boolean) P K) {w : qq_w} {x3 : Int32} {n : Nat} (e3 : x3 = nI n) (hn : n + 13 ≤ 2496)
    (h1 : qq_some1 (w.1 18) n 13 (-1) → P (some (.int 1)) w) (h0 : ¬ qq_some1 (w.1 18) n 13 (-1) → P (some (.int 0)) w) :
    ∀ m i, i + m = 13 → (∀ k, k < i → w.1 18 (n + k) = -1) → ∀ x4 : Int32, x4 = nI i → K 9 [(0, .ref 2), (3, .int x3), (4, .int x4)] [] w := by
  intro m
  induction m with
  | zero =>
    intro i hi hf x4 e4
    refine qq_go_ok S (fun pc => Nat.beq pc 9) 60 ?_
    conv => whnf
    refine ⟨fun _ => h0 ?_, fun h => absurd (i_ge 13 e4 (by omega) (by omega)) h⟩
    rintro ⟨k, hk, z⟩
    exact z (hf k (by omega))
  | succ m ih =>
    intro i hi hf x4 e4
    refine qq_go_ok S (fun pc => Nat.beq pc 9) 60 ?_
    conv => whnf
    refine ⟨fun h => absurd h (i_nge 13 e4 (by omega) (by omega)), fun _ => ?_⟩
    conv => whnf
    have e : x3 + x4 = nI (n + i) := by rw [e3, e4, nI_add]
    refine ⟨i_in 2496 e (by omega) (by decide), ?_⟩
    conv => whnf
    have ee : w.1 18 (x3 + x4).toNatClampNeg = w.1 18 (n + i) := by rw [i_c e (by omega)]
    refine ⟨fun h => ?_, fun h => ?_⟩
    · conv => whnf
      have h : w.1 18 (x3 + x4).toNatClampNeg = -1 := h
      rw [ee] at h
      refine qq_wk S (ih (i + 1) (by omega) (fun k hk => ?_) _ (i_s e4)) ⟨rfl, rfl, rfl, trivial⟩
      by_cases hki : k = i
      · rw [hki]; exact h
      · exact hf k (by omega)
    · have h : ¬ w.1 18 (x3 + x4).toNatClampNeg = -1 := h
      rw [ee] at h
      exact h1 ⟨i, by omega, h⟩
set_option maxHeartbeats 4000000 in
set_option maxRecDepth 100000 in
theorem bd_X1_hasRows : ∀ As w P K, qq_Sat ww_sh ww_ro cs_X1_hasRows (qq_at 39 kd_X1_hasRows) (some .boolean) P K → T_X1_hasRows As w P → K 0 (lv_args 0 As) [] w := by
  intro As w P K S h
  unfold T_X1_hasRows at h
  split at h
  · rename_i a b
    obtain ⟨⟨hp, hp2⟩, hq1, hq0⟩ := h
    obtain ⟨ea, ha⟩ := qn_eq hp (by decide)
    obtain ⟨eb, hb⟩ := qn_eq hp2 (by decide)
    refine qq_go_ok S (fun pc => Nat.beq pc 9) 60 ?_
    conv => whnf
    have e : (a * 3 + b) * nI 13 = nI (39 * qn a + 13 * qn b) := by
      rw [nI_ml ea eb (nI_lit 3), pk_mul]
      congr 1
      omega
    exact qq_wk S (lp_hasRows S e (by omega) hq1 hq0 13 0 rfl (fun k hk => absurd hk (by omega)) _ rfl) ⟨rfl, rfl, rfl, trivial⟩
  · exact h.elim
theorem ha_X1_hasRows : ∀ As w P, T_X1_hasRows As w P → qq_wd As ≤ 5 := by
  intro As w P h
  unfold T_X1_hasRows at h
  split at h
  · exact Nat.le_of_ble_eq_true rfl
  · exact h.elim
theorem hv_X1_hasRows : ∀ As w P, T_X1_hasRows As w P → ∃ (k : Nat) (r : List Value) (fs : List Nat), As = .ref k :: r ∧ ww_sh[k]? = some (.inr (1, fs)) := by
  intro As w P h
  unfold T_X1_hasRows at h
  split at h
  · exact ⟨_, _, _, rfl, rfl⟩
  · exact h.elim
set_option maxRecDepth 100000 in
theorem M_X1_hasRows (l : Launch) : qq_M l ww_T ww_N vwCl ww_sh ww_ro ww_zs yX1_hasRows cX1_hasRows 5 (some .boolean) (ww_rm 1) T_X1_hasRows := by
  refine qq_mk (host := RX7) (is := ki_X1_hasRows) (cs := cs_X1_hasRows) (by decide) ww_k1 wl_X1 ww_so ww_so2 kc_X1_hasRows kv_X1_hasRows kg_X1_hasRows ?_ ha_X1_hasRows bd_X1_hasRows
  intro k i q hi hq
  match k, hi, hq with
  | 0, hi, hq => cases hi; cases hq; exact fun p e s m args below meth c D tys tC ad Q pc X hdg => qq_cS X ww_gd (M_X1_rowAt l) kf_X1_rowAt.1 (Or.inl (ww_a2 (i := 209) (w := Cond.methodLink RX1 29 yX1_rowAt) rfl rfl)) kf_X1_rowAt.2.1 kf_X1_rowAt.2.2 ⟨by decide, by decide, by decide +kernel⟩ rfl rfl ⟨by decide, by decide⟩ ⟨Nat.le_refl _, Nat.le_refl _⟩ hdg
  | n + 1, hi, hq => simp [cs_X1_hasRows] at hq
