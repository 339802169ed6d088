/-- the or of some places of a row -/
def qq_or (f : Nat → Int32) (b : Nat) : Nat → Int32
  | 0 => 0
  | i + 1 => qq_or f b i ||| f (b + i)
theorem nI_ml {a : Int32} {n i c : Nat} (ha : a = nI n) {x : Int32} (hx : x = nI i) {k : Int32} (hk : k = nI c) : a * k + x = nI (c * n + i) := by
  rw [ha, hx, hk, pk_mul, nI_add, Nat.mul_comm]
theorem i_in {x : Int32} {k : Nat} (N : Nat) (e : x = nI k) (h : k < N) (hN : N < 2 ^ 31) : vp_in x N := by rw [e]; exact vp_in_nI h hN
theorem i_ge {x : Int32} {i : Nat} (c : Nat) (e : x = nI i) (h : c ≤ i) (hi : i < 2 ^ 31) : nI c ≤ x := by rw [e]; exact nI_le h hi
theorem i_nge {x : Int32} {i : Nat} (c : Nat) (e : x = nI i) (h : i < c) (hc : c < 2 ^ 31) : ¬ nI c ≤ x := by rw [e]; exact nI_ge h hc
theorem i_s {x : Int32} {i : Nat} (e : x = nI i) : x + 1 = nI (i + 1) := by rw [e]; exact nI_1 i
theorem i_c {x : Int32} {i : Nat} (e : x = nI i) (h : i < 2 ^ 31) : x.toNatClampNeg = i := by rw [e]; exact nI_clamp h
abbrev cs_X5_holding : List (Nat × qq_t) := [(3, T_X5_reached)]
def T_X5_holding : qq_t := fun As w P => match As with
  | [.ref 3, .int a] => vp_in a 64 ∧ P (some (.int (qq_or (w.1 20) (13 * qn a) 13))) w
  | _ => False
theorem lp_X5_holding {P : Option Value → qq_w → Prop} {K : Nat → qq_L → List Value → qq_w → Prop} (S : qq_Sat ww_sh ww_ro cs_X5_holding (qq_at 27 kd_X5_holding) (some .int) P K) {w : qq_w} {a : Int32} {n : Nat} (ha : a = nI n) (hn : n < 64) (hq : P (some (.int (qq_or (w.1 20) (13 * n) 13))) w) :
    ∀ m i, i + m = 13 → ∀ x2 x3 : Int32, x3 = nI i → x2 = qq_or (w.1 20) (13 * n) i → K 4 [(0, .ref 3), (1, .int a), (2, .int x2), (3, .int x3)] [] w := by
  intro m
  induction m with
  | zero =>
    intro i hi x2 x3 e3 e2
    refine qq_go_ok S (fun pc => Nat.beq pc 4) 30 ?_
    conv => whnf
    refine ⟨fun _ => ?_, fun h => absurd (i_ge 13 e3 (by omega) (by omega)) h⟩
    conv => whnf
    rw [e2, show i = 13 by omega]
    exact hq
  | succ m ih =>
    intro i hi x2 x3 e3 e2
    refine qq_go_ok S (fun pc => Nat.beq pc 4) 30 ?_
    conv => whnf
    refine ⟨fun h => absurd h (i_nge 13 e3 (by omega) (by omega)), fun _ => ?_⟩
    conv => whnf
    have e := nI_ml ha e3 (nI_lit 13)
    refine ⟨i_in 832 e (by omega) (by decide), ?_⟩
    conv => whnf
    refine qq_wk S (ih (i + 1) (by omega) _ _ (i_s e3) ?_) ⟨rfl, rfl, rfl, rfl, trivial⟩
    rw [e2]
    show _ ||| w.1 20 (a * 13 + x3).toNatClampNeg = _
    rw [i_c e (by omega)]
    rfl
set_option maxHeartbeats 4000000 in
set_option maxRecDepth 100000 in
theorem bd_X5_holding : ∀ As w P K, qq_Sat ww_sh ww_ro cs_X5_holding (qq_at 27 kd_X5_holding) (some .int) P K → T_X5_holding As w P → K 0 (lv_args 0 As) [] w := by
  intro As w P K S h
  unfold T_X5_holding at h
  split at h
  · rename_i a
    obtain ⟨hp, hq⟩ := h
    obtain ⟨ea, ha⟩ := qn_eq hp (by decide)
    refine qq_go_ok S (fun pc => Nat.beq pc 4) 30 ?_
    conv => whnf
    exact qq_wk S (lp_X5_holding S ea ha hq 13 0 rfl _ _ rfl rfl) ⟨rfl, rfl, rfl, rfl, trivial⟩
  · exact h.elim
theorem ha_X5_holding : ∀ As w P, T_X5_holding As w P → qq_wd As ≤ 4 := by
  intro As w P h
  unfold T_X5_holding at h
  split at h
  · exact Nat.le_of_ble_eq_true rfl
  · exact h.elim
theorem hv_X5_holding : ∀ As w P, T_X5_holding As w P → ∃ (k : Nat) (r : List Value) (fs : List Nat), As = .ref k :: r ∧ ww_sh[k]? = some (.inr (5, fs)) := by
  intro As w P h
  unfold T_X5_holding at h
  split at h
  · exact ⟨_, _, _, rfl, rfl⟩
  · exact h.elim
set_option maxRecDepth 100000 in
theorem M_X5_holding (l : Launch) : qq_M l ww_T ww_N vwCl ww_sh ww_ro ww_zs yX5_holding cX5_holding 4 (some .int) (ww_rm 1) T_X5_holding := by
  refine qq_mk (host := RX7) (is := ki_X5_holding) (cs := cs_X5_holding) (by decide) ww_k1 wl_X5 ww_so ww_so2 kc_X5_holding kv_X5_holding kg_X5_holding ?_ ha_X5_holding bd_X5_holding
  intro k i q hi hq
  match k, hi, hq with
  | 0, hi, hq => cases hi; cases hq; exact fun p e s m args below meth c D tys tC ad Q pc X hdg => qq_cV (ci := 5) X ww_gd (M_X5_reached l) kf_X5_reached.1 (Or.inl (ww_a3 (i := 68) (w := Cond.methodLink RX5 92 yX5_reached) rfl rfl)) kf_X5_reached.2.1 kf_X5_reached.2.2.1 kf_X5_reached.2.2.2 ⟨by decide, by decide, by decide +kernel⟩ rfl rfl rfl ⟨by decide, by decide⟩ ⟨Nat.le_refl _, Nat.le_refl _⟩ hv_X5_reached hdg
  | n + 1, hi, hq => simp [cs_X5_holding] at hq
abbrev cs_X3_isUnder : List (Nat × qq_t) := [(2, T_X7_isWithin)]
/-- the kinds that a kind is under -/
def qq_under (k : Nat) (a : Int32) : Prop := a = nI k ∨ (a = 3 ∧ (k = 4 ∨ k = 5 ∨ k = 6 ∨ k = 7)) ∨ (a = 4 ∧ k = 5)
def T_X3_isUnder : qq_t := fun As w P => match As with
  | [.int k, .int a] => vp_in k 11 ∧ (qq_under (qn k) a → P (some (.int 1)) w) ∧ (¬ qq_under (qn k) a → P (some (.int 0)) w)
  | _ => False
theorem lp_isUnder0 {P : Option Value → qq_w → Prop} {K : Nat → qq_L → List Value → qq_w → Prop} (S : qq_Sat ww_sh ww_ro cs_X3_isUnder (qq_at 40 kd_X3_isUnder) (some .boolean) P K) {w : qq_w} {a x3 : Int32} (hq : P (some (.int 0)) w) : K 4 [(1, .int a), (2, .int (-5)), (3, .int x3)] [] w := by
  refine qq_go_ok S (fun pc => Nat.beq pc 4) 40 ?_
  conv => whnf
  refine ⟨fun _ => hq, fun _ => ?_⟩
  conv => whnf
  refine ⟨fun _ => ?_, fun h => absurd (by decide) h⟩
  conv => whnf
  refine ⟨fun _ => hq, fun h => absurd rfl h⟩
theorem lp_isUnder1 {P : Option Value → qq_w → Prop} {K : Nat → qq_L → List Value → qq_w → Prop} (S : qq_Sat ww_sh ww_ro cs_X3_isUnder (qq_at 40 kd_X3_isUnder) (some .boolean) P K) {w : qq_w} {a x2 x3 : Int32} {n i : Nat} (e2 : x2 = nI n) (hn : n < 11) (e3 : x3 = nI i) (hi : i < 11) (h1 : a = nI n → P (some (.int 1)) w)
    (h0 : ¬ a = nI n → ∀ y3, y3 = nI (i + 1) → K 4 [(1, .int a), (2, .int (ww_above.getD n 0)), (3, .int y3)] [] w) : K 4 [(1, .int a), (2, .int x2), (3, .int x3)] [] w := by
  refine qq_go_ok S (fun pc => Nat.beq pc 4) 40 ?_
  conv => whnf
  refine ⟨fun h => absurd h (i_nge 11 e3 (by omega) (by omega)), fun _ => ?_⟩
  conv => whnf
  refine ⟨fun h => absurd h (by rw [e2]; exact nI_pos (by omega)), fun _ => ?_⟩
  conv => whnf
  refine ⟨fun h => absurd h (i_nge 11 e2 (by omega) (by omega)), fun _ => ?_⟩
  conv => whnf
  refine ⟨fun h => absurd h (by decide), fun _ => ?_⟩
  conv => whnf
  refine ⟨fun h => ?_, fun h => ?_⟩
  · conv => whnf
    refine ⟨i_in 11 e2 (by omega) (by decide), ?_⟩
    conv => whnf
    refine qq_wk S (h0 (fun z => h (by rw [e2, z])) _ (i_s e3)) ⟨rfl, ?_, rfl, trivial⟩
    show some (Value.int (ww_above.getD x2.toNatClampNeg 0)) = _
    rw [i_c e2 (by omega)]
  · conv => whnf
    exact h1 (by rw [← h, e2])
set_option maxHeartbeats 4000000 in
set_option maxRecDepth 100000 in
theorem bd_X3_isUnder : ∀ As w P K, qq_Sat ww_sh ww_ro cs_X3_isUnder (qq_at 40 kd_X3_isUnder) (some .boolean) P K → T_X3_isUnder As w P → K 0 (lv_args 0 As) [] w := by
  intro As w P K S h
  unfold T_X3_isUnder at h
  split at h
  · rename_i k a
    obtain ⟨hp, hq1, hq0⟩ := h
    obtain ⟨ek, hk⟩ := qn_eq hp (by decide)
    generalize qn k = n at *
    subst ek
    refine qq_go_ok S (fun pc => Nat.beq pc 4) 30 ?_
    conv => whnf
    have fin : ∀ m i : Nat, m < 11 → i < 11 → ww_above.getD m 0 = -5 → (a = nI m → qq_under n a) → (¬ a = nI m → ¬ qq_under n a) → ∀ x2 x3 : Int32, x2 = nI m → x3 = nI i → K 4 [(1, .int a), (2, .int x2), (3, .int x3)] [] w := by
      intro m i hm hi hab h1 h0 x2 x3 e2 e3
      refine lp_isUnder1 S e2 hm e3 hi (fun z => hq1 (h1 z)) (fun z y3 _ => ?_)
      rw [hab]
      exact lp_isUnder0 S (hq0 (h0 z))
    refine qq_wk S (lv0 := [(1, .int a), (2, .int (nI n)), (3, .int 0)]) ?_ ⟨rfl, rfl, rfl, trivial⟩
    have c11 : (n = 0 ∨ n = 1 ∨ n = 2 ∨ n = 3 ∨ n = 8 ∨ n = 9 ∨ n = 10) ∨ (n = 4 ∨ n = 6 ∨ n = 7) ∨ n = 5 := by omega
    rcases c11 with hc | hc | hc
    · refine fin n 0 hk (by omega) ?_ (fun z => Or.inl z) (fun z => ?_) _ _ rfl rfl
      · rcases hc with rfl | rfl | rfl | rfl | rfl | rfl | rfl <;> decide
      · rintro (q | ⟨-, q⟩ | ⟨-, q⟩) <;> first | exact z q | omega
    · refine lp_isUnder1 S (i := 0) rfl hk rfl (by omega) (fun z => hq1 (Or.inl z)) (fun z y3 ey => ?_)
      refine fin 3 1 (by omega) (by omega) (by decide) (fun q => Or.inr (Or.inl ⟨q, by omega⟩)) (fun q => ?_) _ _ ?_ ey
      · rintro (q1 | ⟨q1, -⟩ | ⟨-, q1⟩)
        · exact z q1
        · exact q q1
        · omega
      · rcases hc with rfl | rfl | rfl <;> decide
    · subst hc
      refine lp_isUnder1 S (i := 0) rfl hk rfl (by omega) (fun z => hq1 (Or.inl z)) (fun z y3 ey => ?_)
      refine lp_isUnder1 S (n := 4) (by decide) (by omega) ey (by omega) (fun q => hq1 (Or.inr (Or.inr ⟨q, rfl⟩))) (fun q y4 ez => ?_)
      refine fin 3 2 (by omega) (by omega) (by decide) (fun q => Or.inr (Or.inl ⟨q, by omega⟩)) (fun q2 => ?_) _ _ (by decide) ez
      rintro (q1 | ⟨q1, -⟩ | ⟨q1, -⟩)
      · exact z q1
      · exact q2 q1
      · exact q q1
  · exact h.elim
theorem ha_X3_isUnder : ∀ As w P, T_X3_isUnder As w P → qq_wd As ≤ 4 := by
  intro As w P h
  unfold T_X3_isUnder at h
  split at h
  · exact Nat.le_of_ble_eq_true rfl
  · exact h.elim
set_option maxRecDepth 100000 in
theorem M_X3_isUnder (l : Launch) : qq_M l ww_T ww_N vwCl ww_sh ww_ro ww_zs yX3_isUnder cX3_isUnder 4 (some .boolean) (ww_rm 1) T_X3_isUnder := by
  refine qq_mk (host := RX7) (is := ki_X3_isUnder) (cs := cs_X3_isUnder) (by decide) ww_k1 wl_X3 ww_so ww_so2 kc_X3_isUnder kv_X3_isUnder kg_X3_isUnder ?_ ha_X3_isUnder bd_X3_isUnder
  intro k i q hi hq
  match k, hi, hq with
  | 0, hi, hq => cases hi; cases hq; exact fun p e s m args below meth c D tys tC ad Q pc X hdg => qq_cS X ww_gd (M_X7_isWithin l) kf_X7_isWithin.1 (Or.inr ⟨RX7, ww_n2 (i := 92) (w := Cond.methodLinkNest RX3 40 yX7_isWithin RX7) rfl rfl⟩) kf_X7_isWithin.2.1 kf_X7_isWithin.2.2 ⟨by decide, by decide, by decide +kernel⟩ rfl rfl ⟨by decide, by decide⟩ ⟨Nat.le_refl _, Nat.le_refl _⟩ hdg
  | n + 1, hi, hq => simp [cs_X3_isUnder] at hq
abbrev cs_X3_addNode : List (Nat × qq_t) := [(4, T_X3_tell)]
/-- a world that differs from another at some places of ints alone -/
def qq_only (ps : List Nat) (w w' : qq_w) : Prop := w'.2 = w.2 ∧ ∀ q, q ∉ ps → w'.1 q = w.1 q
def qq_addNode (w : qq_w) (o k : Int32) (w' : qq_w) : Prop := qq_only [1, 13] w w' ∧ w'.1 1 = upd (w.1 1) 10 (w.1 1 10 + 1) ∧ ∀ j, w'.1 13 j = if j / 10 = qn (w.1 1 10) then (if j % 10 = 0 then o else if j % 10 = 1 then k else -5) else w.1 13 j
def T_X3_addNode : qq_t := fun As w P => match As with
  | [.ref 1, .int o, .int k] => vp_in (w.1 1 10) 64 ∧ ∀ w', qq_addNode w o k w' → P (some (.int (w.1 1 10))) w'
  | _ => False
theorem lp_addNode {P : Option Value → qq_w → Prop} {K : Nat → qq_L → List Value → qq_w → Prop} (S : qq_Sat ww_sh ww_ro cs_X3_addNode (qq_at 56 kd_X3_addNode) (some .int) P K) {w : qq_w} {o k a : Int32} {n : Nat} (ha : a = nI n) (hn : n < 64) (e10 : w.1 1 10 = a) (hq : ∀ w', qq_addNode w o k w' → P (some (.int a)) w') :
    ∀ m i, i + m = 10 → ∀ (x4 : Int32) (w1 : qq_w), x4 = nI i → qq_only [1, 13] w w1 → w1.1 1 = upd (w.1 1) 10 (a + 1) → (∀ j, w1.1 13 j = if 10 * n ≤ j ∧ j < 10 * n + i then -5 else w.1 13 j) → K 18 [(0, .ref 1), (1, .int o), (2, .int k), (3, .int a), (4, .int x4)] [] w1 := by
  intro m
  induction m with
  | zero =>
    intro i hi x4 w1 e4 h1 h2 h3
    refine qq_go_ok S (fun pc => Nat.beq pc 18) 60 ?_
    conv => whnf
    refine ⟨fun _ => ?_, fun h => absurd (i_ge 10 e4 (by omega) (by omega)) h⟩
    conv => whnf
    have e := nI_ml ha (x := 0) (i := 0) rfl (nI_lit 10)
    refine ⟨i_in 640 e (by omega) (by decide), ?_⟩
    conv => whnf
    have e' := nI_ml ha (x := 1) (i := 1) rfl (nI_lit 10)
    refine ⟨i_in 640 e' (by omega) (by decide), ?_⟩
    conv => whnf
    refine hq _ ⟨⟨h1.1, fun q hq => ?_⟩, ?_, fun j => ?_⟩
    · have hq' : q ≠ 13 := fun z => hq (by simp [z])
      simp only [qq_ui, va_up, hq', if_false]
      exact h1.2 q hq
    · show w1.1 1 = _
      rw [h2, e10]
    · show upd (upd (w1.1 13) _ o) _ k j = _
      rw [i_c e (by omega), i_c e' (by omega)]
      unfold upd
      rw [h3 j, e10, ha, qn_nI (by omega)]
      have hi : i = 10 := by omega
      subst hi
      (repeat' split) <;> first | rfl | omega
  | succ m ih =>
    intro i hi x4 w1 e4 h1 h2 h3
    refine qq_go_ok S (fun pc => Nat.beq pc 18) 60 ?_
    conv => whnf
    refine ⟨fun h => absurd h (i_nge 10 e4 (by omega) (by omega)), fun _ => ?_⟩
    conv => whnf
    have e := nI_ml ha e4 (nI_lit 10)
    refine ⟨i_in 640 e (by omega) (by decide), ?_⟩
    conv => whnf
    refine qq_wk S (ih (i + 1) (by omega) _ _ (i_s e4) ⟨h1.1, fun q hq => ?_⟩ h2 fun j => ?_) ⟨rfl, rfl, rfl, rfl, rfl, trivial⟩
    · have hq' : q ≠ 13 := fun z => hq (by simp [z])
      simp only [qq_ui, va_up, hq', if_false]
      exact h1.2 q hq
    · show upd (w1.1 13) _ _ j = _
      rw [i_c e (by omega)]
      unfold upd
      rw [h3 j]
      (repeat' split) <;> first | rfl | omega
set_option maxHeartbeats 4000000 in
set_option maxRecDepth 100000 in
theorem bd_X3_addNode : ∀ As w P K, qq_Sat ww_sh ww_ro cs_X3_addNode (qq_at 56 kd_X3_addNode) (some .int) P K → T_X3_addNode As w P → K 0 (lv_args 0 As) [] w := by
  intro As w P K S h
  unfold T_X3_addNode at h
  split at h
  · rename_i o k
    obtain ⟨hp, hq⟩ := h
    obtain ⟨ea, ha⟩ := qn_eq hp (by decide)
    refine qq_go_ok S (fun pc => Nat.beq pc 18) 60 ?_
    conv => whnf
    refine qq_wk S (lp_addNode S ea ha rfl hq 10 0 rfl _ _ rfl ⟨rfl, fun q hq => ?_⟩ rfl fun j => ?_) ⟨rfl, rfl, rfl, rfl, rfl, trivial⟩
    · have hq' : q ≠ 1 := fun z => hq (by simp [z])
      simp only [qq_ui, va_up, hq', if_false]
    · rw [if_neg (by omega)]
      rfl
  · exact h.elim
theorem ha_X3_addNode : ∀ As w P, T_X3_addNode As w P → qq_wd As ≤ 5 := by
  intro As w P h
  unfold T_X3_addNode at h
  split at h
  · exact Nat.le_of_ble_eq_true rfl
  · exact h.elim
theorem hv_X3_addNode : ∀ As w P, T_X3_addNode As w P → ∃ (k : Nat) (r : List Value) (fs : List Nat), As = .ref k :: r ∧ ww_sh[k]? = some (.inr (3, fs)) := by
  intro As w P h
  unfold T_X3_addNode at h
  split at h
  · exact ⟨_, _, _, rfl, rfl⟩
  · exact h.elim
set_option maxRecDepth 100000 in
theorem M_X3_addNode (l : Launch) : qq_M l ww_T ww_N vwCl ww_sh ww_ro ww_zs yX3_addNode cX3_addNode 5 (some .int) (ww_rm 1) T_X3_addNode := by
  refine qq_mk (host := RX7) (is := ki_X3_addNode) (cs := cs_X3_addNode) (by decide) ww_k1 wl_X3 ww_so ww_so2 kc_X3_addNode kv_X3_addNode kg_X3_addNode ?_ ha_X3_addNode bd_X3_addNode
  intro k i q hi hq
  match k, hi, hq with
  | 0, hi, hq => cases hi; cases hq; exact fun p e s m args below meth c D tys tC ad Q pc X hdg => qq_cV (ci := 3) X ww_gd (M_X3_tell l) kf_X3_tell.1 (Or.inl (ww_a2 (i := 80) (w := Cond.methodLink RX3 65 yX3_tell) rfl rfl)) kf_X3_tell.2.1 kf_X3_tell.2.2.1 kf_X3_tell.2.2.2 ⟨by decide, by decide, by decide +kernel⟩ rfl rfl rfl ⟨by decide, by decide⟩ ⟨Nat.le_refl _, Nat.le_refl _⟩ hv_X3_tell hdg
  | n + 1, hi, hq => simp [cs_X3_addNode] at hq
