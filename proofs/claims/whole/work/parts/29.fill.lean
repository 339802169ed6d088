abbrev cs_J7_fill_53178 : List (Nat × qq_t) := []
def T_J7_fill_53178 : qq_t := fun As w P => match As with
  | [.ref k, .int v] => (k = 18 ∨ k = 20) ∧ ∀ w', (qq_only [k] w w' ∧ ∀ j, w'.1 k j = if j < (cond (Nat.beq k 18) 2496 832) then v else w.1 k j) → P none w'
  | _ => False
theorem lp_fill0 {P : Option Value → qq_w → Prop} {K : Nat → qq_L → List Value → qq_w → Prop} (S : qq_Sat ww_sh ww_ro cs_J7_fill_53178 (qq_at 21 kd_J7_fill_53178) none P K) {w : qq_w} {k N : Nat} {v x3 : Int32} (hk : (k = 18 ∧ N = 2496) ∨ (k = 20 ∧ N = 832)) (e3 : x3 = nI N)
    (hq : ∀ w', (qq_only [k] w w' ∧ ∀ j, w'.1 k j = if j < N then v else w.1 k j) → P none w') :
    ∀ m i, i + m = N → ∀ (x2 : Int32) (w1 : qq_w), x2 = nI i → qq_only [k] w w1 → (∀ j, w1.1 k j = if j < i then v else w.1 k j) → K 5 [(0, .ref k), (1, .int v), (2, .int x2), (3, .int x3)] [] w1 := by
  intro m
  induction m with
  | zero =>
    intro i hi x2 w1 e2 h1 h2
    have : i = N := by omega
    subst this
    refine qq_go_ok S (fun pc => Nat.beq pc 5) 60 ?_
    conv => whnf
    refine br_t (i_ge' e2 e3 (by omega) (by omega)) ?_
    conv => whnf
    exact hq w1 ⟨h1, h2⟩
  | succ m ih =>
    intro i hi x2 w1 e2 h1 h2
    have c2 := i_c e2 (by omega)
    rcases hk with ⟨rfl, rfl⟩ | ⟨rfl, rfl⟩
    · refine qq_go_ok S (fun pc => Nat.beq pc 5) 60 ?_
      conv => whnf
      refine br_f (i_lt' e2 e3 (by omega) (by omega)) ?_
      conv => whnf
      refine ⟨i_in 2496 e2 (by omega) (by decide), ?_⟩
      conv => whnf
      refine qq_wk S (ih (i + 1) (by omega) _ _ (i_s e2) (qq_only_ui h1 (by simp)) (fun j => ?_)) ⟨rfl, rfl, rfl, rfl, trivial⟩
      show upd (w1.1 18) x2.toNatClampNeg v j = _
      rw [c2, upd_at, h2 j]
      (repeat' split) <;> first | rfl | omega
    · refine qq_go_ok S (fun pc => Nat.beq pc 5) 60 ?_
      conv => whnf
      refine br_f (i_lt' e2 e3 (by omega) (by omega)) ?_
      conv => whnf
      refine ⟨i_in 832 e2 (by omega) (by decide), ?_⟩
      conv => whnf
      refine qq_wk S (ih (i + 1) (by omega) _ _ (i_s e2) (qq_only_ui h1 (by simp)) (fun j => ?_)) ⟨rfl, rfl, rfl, rfl, trivial⟩
      show upd (w1.1 20) x2.toNatClampNeg v j = _
      rw [c2, upd_at, h2 j]
      (repeat' split) <;> first | rfl | omega
set_option maxHeartbeats 4000000 in
set_option maxRecDepth 100000 in
theorem bd_J7_fill_53178 : ∀ As w P K, qq_Sat ww_sh ww_ro cs_J7_fill_53178 (qq_at 21 kd_J7_fill_53178) none P K → T_J7_fill_53178 As w P → K 0 (lv_args 0 As) [] w := by
  intro As w P K S h
  unfold T_J7_fill_53178 at h
  split at h
  · rename_i k v
    obtain ⟨hp, hq⟩ := h
    rcases hp with rfl | rfl
    · refine qq_go_ok S (fun pc => Nat.beq pc 5) 60 ?_
      conv => whnf
      exact qq_wk S (lp_fill0 S (N := 2496) (x3 := nI 2496) (Or.inl ⟨rfl, rfl⟩) rfl hq 2496 0 rfl _ _ rfl qq_only_rf (fun j => by rw [if_neg (by omega)])) ⟨rfl, rfl, rfl, rfl, trivial⟩
    · refine qq_go_ok S (fun pc => Nat.beq pc 5) 60 ?_
      conv => whnf
      exact qq_wk S (lp_fill0 S (N := 832) (x3 := nI 832) (Or.inr ⟨rfl, rfl⟩) rfl hq 832 0 rfl _ _ rfl qq_only_rf (fun j => by rw [if_neg (by omega)])) ⟨rfl, rfl, rfl, rfl, trivial⟩
  · exact h.elim
theorem ha_J7_fill_53178 : ∀ As w P, T_J7_fill_53178 As w P → qq_wd As ≤ 4 := by
  intro As w P h
  unfold T_J7_fill_53178 at h
  split at h
  · exact Nat.le_of_ble_eq_true rfl
  · exact h.elim
set_option maxRecDepth 100000 in
theorem M_J7_fill_53178 (l : Launch) : qq_M l ww_T ww_N vwCl ww_sh ww_ro ww_zs yJ7_fill_53178 cJ7_fill_53178 4 none (ww_rm 0) T_J7_fill_53178 := by
  refine qq_mk (host := RX7) (is := ki_J7_fill_53178) (cs := cs_J7_fill_53178) (by decide) ww_k1 ww_fl0 ww_so ww_so2 kc_J7_fill_53178 kv_J7_fill_53178 kg_J7_fill_53178 ?_ ha_J7_fill_53178 bd_J7_fill_53178
  intro k i q hi hq
  simp [cs_J7_fill_53178] at hq
abbrev cs_J7_fill_fda19 : List (Nat × qq_t) := [(3, T_J7_rangeCheck_23922)]
def T_J7_fill_fda19 : qq_t := fun As w P => match As with
  | [.ref k, .int f, .int t, .int v] => (∃ N i j, ((k = 18 ∧ N = 2496) ∨ (k = 35 ∧ N = 10816)) ∧ f = nI i ∧ t = nI j ∧ i ≤ j ∧ j ≤ N) ∧ ∀ w', (qq_only [k] w w' ∧ ∀ q, w'.1 k q = if qn f ≤ q ∧ q < qn t then v else w.1 k q) → P none w'
  | _ => False
theorem lp_fill1 {P : Option Value → qq_w → Prop} {K : Nat → qq_L → List Value → qq_w → Prop} (S : qq_Sat ww_sh ww_ro cs_J7_fill_fda19 (qq_at 28 kd_J7_fill_fda19) none P K) {w : qq_w} {k N i0 N1 : Nat} {v t : Int32} (hk : (k = 18 ∧ N = 2496) ∨ (k = 35 ∧ N = 10816)) (et : t = nI N1) (hN : N1 ≤ N)
    (hq : ∀ w', (qq_only [k] w w' ∧ ∀ q, w'.1 k q = if i0 ≤ q ∧ q < N1 then v else w.1 k q) → P none w') :
    ∀ m i, i + m = N1 → i0 ≤ i → ∀ (x4 : Int32) (w1 : qq_w), x4 = nI i → qq_only [k] w w1 → (∀ q, w1.1 k q = if i0 ≤ q ∧ q < i then v else w.1 k q) → K 10 [(0, .ref k), (2, .int t), (3, .int v), (4, .int x4)] [] w1 := by
  intro m
  induction m with
  | zero =>
    intro i hi hi0 x4 w1 e4 h1 h2
    have : i = N1 := by omega
    subst this
    refine qq_go_ok S (fun pc => Nat.beq pc 10) 60 ?_
    conv => whnf
    refine br_t (i_ge' e4 et (by omega) (by omega)) ?_
    conv => whnf
    exact hq w1 ⟨h1, h2⟩
  | succ m ih =>
    intro i hi hi0 x4 w1 e4 h1 h2
    have c4 := i_c e4 (by omega)
    rcases hk with ⟨rfl, rfl⟩ | ⟨rfl, rfl⟩
    · refine qq_go_ok S (fun pc => Nat.beq pc 10) 60 ?_
      conv => whnf
      refine br_f (i_lt' e4 et (by omega) (by omega)) ?_
      conv => whnf
      refine ⟨i_in 2496 e4 (by omega) (by decide), ?_⟩
      conv => whnf
      refine qq_wk S (ih (i + 1) (by omega) (by omega) _ _ (i_s e4) (qq_only_ui h1 (by simp)) (fun j => ?_)) ⟨rfl, rfl, rfl, rfl, trivial⟩
      show upd (w1.1 18) x4.toNatClampNeg v j = _
      rw [c4, upd_at, h2 j]
      (repeat' split) <;> first | rfl | omega
    · refine qq_go_ok S (fun pc => Nat.beq pc 10) 60 ?_
      conv => whnf
      refine br_f (i_lt' e4 et (by omega) (by omega)) ?_
      conv => whnf
      refine ⟨i_in 10816 e4 (by omega) (by decide), ?_⟩
      conv => whnf
      refine qq_wk S (ih (i + 1) (by omega) (by omega) _ _ (i_s e4) (qq_only_ui h1 (by simp)) (fun j => ?_)) ⟨rfl, rfl, rfl, rfl, trivial⟩
      show upd (w1.1 35) x4.toNatClampNeg v j = _
      rw [c4, upd_at, h2 j]
      (repeat' split) <;> first | rfl | omega
set_option maxHeartbeats 4000000 in
set_option maxRecDepth 100000 in
theorem bd_J7_fill_fda19 : ∀ As w P K, qq_Sat ww_sh ww_ro cs_J7_fill_fda19 (qq_at 28 kd_J7_fill_fda19) none P K → T_J7_fill_fda19 As w P → K 0 (lv_args 0 As) [] w := by
  intro As w P K S h
  unfold T_J7_fill_fda19 at h
  split at h
  · rename_i k f t v
    obtain ⟨⟨N, i, j, hk, rfl, rfl, hij, hj⟩, hq⟩ := h
    rw [qn_nI (by omega), qn_nI (by omega)] at hq
    have hk' := hk
    rcases hk with ⟨rfl, rfl⟩ | ⟨rfl, rfl⟩
    · refine qq_go_ok S (fun pc => Nat.beq pc 10) 60 ?_
      conv => whnf
      refine br_t (nI_le hij (by omega)) ?_
      conv => whnf
      refine br_t (nI_pos' (by omega)) ?_
      conv => whnf
      refine br_t (nI_le hj (by omega)) ?_
      conv => whnf
      exact qq_wk S (lp_fill1 S hk' rfl hj hq (j - i) i (by omega) (Nat.le_refl i) _ _ rfl qq_only_rf (fun q => by rw [if_neg (by omega)])) ⟨rfl, rfl, rfl, rfl, trivial⟩
    · refine qq_go_ok S (fun pc => Nat.beq pc 10) 60 ?_
      conv => whnf
      refine br_t (nI_le hij (by omega)) ?_
      conv => whnf
      refine br_t (nI_pos' (by omega)) ?_
      conv => whnf
      refine br_t (nI_le hj (by omega)) ?_
      conv => whnf
      exact qq_wk S (lp_fill1 S hk' rfl hj hq (j - i) i (by omega) (Nat.le_refl i) _ _ rfl qq_only_rf (fun q => by rw [if_neg (by omega)])) ⟨rfl, rfl, rfl, rfl, trivial⟩
  · exact h.elim
theorem ha_J7_fill_fda19 : ∀ As w P, T_J7_fill_fda19 As w P → qq_wd As ≤ 5 := by
  intro As w P h
  unfold T_J7_fill_fda19 at h
  split at h
  · exact Nat.le_of_ble_eq_true rfl
  · exact h.elim
set_option maxRecDepth 100000 in
theorem M_J7_fill_fda19 (l : Launch) : qq_M l ww_T ww_N vwCl ww_sh ww_ro ww_zs yJ7_fill_fda19 cJ7_fill_fda19 5 none (ww_rm 1) T_J7_fill_fda19 := by
  refine qq_mk (host := RX7) (is := ki_J7_fill_fda19) (cs := cs_J7_fill_fda19) (by decide) ww_k1 ww_fl0 ww_so ww_so2 kc_J7_fill_fda19 kv_J7_fill_fda19 kg_J7_fill_fda19 ?_ ha_J7_fill_fda19 bd_J7_fill_fda19
  intro k i q hi hq
  match k, hi, hq with
  | 0, hi, hq => cases hi; cases hq; exact fun p e s m args below meth c D tys tC ad Q pc X hdg => qq_cS X ww_gd (M_J7_rangeCheck_23922 l) kf_J7_rangeCheck_23922.1 (Or.inl (ww_a2 (i := 231) (w := Cond.methodLink RJ7 13 yJ7_rangeCheck_23922) rfl rfl)) kf_J7_rangeCheck_23922.2.1 kf_J7_rangeCheck_23922.2.2 ⟨by decide, by decide, by decide +kernel⟩ rfl rfl ⟨by decide, by decide⟩ ⟨Nat.le_refl _, Nat.le_refl _⟩ hdg
  | n + 1, hi, hq => simp [cs_J7_fill_fda19] at hq
abbrev cs_J7_fill_bad5a : List (Nat × qq_t) := [(3, T_J7_rangeCheck_23922)]
def qq_onlyL (ps : List Nat) (w w' : qq_w) : Prop := w'.1 = w.1 ∧ ∀ q, q ∉ ps → w'.2 q = w.2 q
theorem qq_onlyL_ul {ps : List Nat} {w w1 : qq_w} {k j : Nat} {x : Int64} (h : qq_onlyL ps w w1) (hk : k ∈ ps) : qq_onlyL ps w (qq_ul w1 k j x) := by
  refine ⟨h.1, fun q hq => ?_⟩
  have hq' : q ≠ k := fun z => hq (z ▸ hk)
  simp only [qq_ul, va_up, hq', if_false]
  exact h.2 q hq
theorem updL_at (f : Nat → Int64) (k j : Nat) (x : Int64) : vp_updL f k x j = if j = k then x else f j := rfl
def T_J7_fill_bad5a : qq_t := fun As w P => match As with
  | [.ref 33, .int f, .int t, .long v] => (∃ i j, f = nI i ∧ t = nI j ∧ i ≤ j ∧ j ≤ 10816) ∧ ∀ w', (qq_onlyL [33] w w' ∧ ∀ q, w'.2 33 q = if qn f ≤ q ∧ q < qn t then v else w.2 33 q) → P none w'
  | _ => False
theorem lp_fill2 {P : Option Value → qq_w → Prop} {K : Nat → qq_L → List Value → qq_w → Prop} (S : qq_Sat ww_sh ww_ro cs_J7_fill_bad5a (qq_at 28 kd_J7_fill_bad5a) none P K) {w : qq_w} {i0 N1 : Nat} {v : Int64} {t : Int32} (et : t = nI N1) (hN : N1 ≤ 10816)
    (hq : ∀ w', (qq_onlyL [33] w w' ∧ ∀ q, w'.2 33 q = if i0 ≤ q ∧ q < N1 then v else w.2 33 q) → P none w') :
    ∀ m i, i + m = N1 → i0 ≤ i → ∀ (x5 : Int32) (w1 : qq_w), x5 = nI i → qq_onlyL [33] w w1 → (∀ q, w1.2 33 q = if i0 ≤ q ∧ q < i then v else w.2 33 q) → K 10 [(0, .ref 33), (2, .int t), (3, .long v), (5, .int x5)] [] w1 := by
  intro m
  induction m with
  | zero =>
    intro i hi hi0 x4 w1 e4 h1 h2
    have : i = N1 := by omega
    subst this
    refine qq_go_ok S (fun pc => Nat.beq pc 10) 60 ?_
    conv => whnf
    refine br_t (i_ge' e4 et (by omega) (by omega)) ?_
    conv => whnf
    exact hq w1 ⟨h1, h2⟩
  | succ m ih =>
    intro i hi hi0 x4 w1 e4 h1 h2
    have c4 := i_c e4 (by omega)
    refine qq_go_ok S (fun pc => Nat.beq pc 10) 60 ?_
    conv => whnf
    refine br_f (i_lt' e4 et (by omega) (by omega)) ?_
    conv => whnf
    refine ⟨i_in 10816 e4 (by omega) (by decide), ?_⟩
    conv => whnf
    refine qq_wk S (ih (i + 1) (by omega) (by omega) _ _ (i_s e4) (qq_onlyL_ul h1 (by simp)) (fun j => ?_)) ⟨rfl, rfl, rfl, rfl, trivial⟩
    show vp_updL (w1.2 33) x4.toNatClampNeg v j = _
    rw [c4, updL_at, h2 j]
    (repeat' split) <;> first | rfl | omega
set_option maxHeartbeats 4000000 in
set_option maxRecDepth 100000 in
theorem bd_J7_fill_bad5a : ∀ As w P K, qq_Sat ww_sh ww_ro cs_J7_fill_bad5a (qq_at 28 kd_J7_fill_bad5a) none P K → T_J7_fill_bad5a As w P → K 0 (lv_args 0 As) [] w := by
  intro As w P K S h
  unfold T_J7_fill_bad5a at h
  split at h
  · rename_i f t v
    obtain ⟨⟨i, j, rfl, rfl, hij, hj⟩, hq⟩ := h
    rw [qn_nI (by omega), qn_nI (by omega)] at hq
    refine qq_go_ok S (fun pc => Nat.beq pc 10) 60 ?_
    conv => whnf
    refine br_t (nI_le hij (by omega)) ?_
    conv => whnf
    refine br_t (nI_pos' (by omega)) ?_
    conv => whnf
    refine br_t (nI_le hj (by omega)) ?_
    conv => whnf
    exact qq_wk S (lp_fill2 S rfl hj hq (j - i) i (by omega) (Nat.le_refl i) _ _ rfl ⟨rfl, fun _ _ => rfl⟩ (fun q => by rw [if_neg (by omega)])) ⟨rfl, rfl, rfl, rfl, trivial⟩
  · exact h.elim
theorem ha_J7_fill_bad5a : ∀ As w P, T_J7_fill_bad5a As w P → qq_wd As ≤ 6 := by
  intro As w P h
  unfold T_J7_fill_bad5a at h
  split at h
  · exact Nat.le_of_ble_eq_true rfl
  · exact h.elim
set_option maxRecDepth 100000 in
theorem M_J7_fill_bad5a (l : Launch) : qq_M l ww_T ww_N vwCl ww_sh ww_ro ww_zs yJ7_fill_bad5a cJ7_fill_bad5a 6 none (ww_rm 1) T_J7_fill_bad5a := by
  refine qq_mk (host := RX7) (is := ki_J7_fill_bad5a) (cs := cs_J7_fill_bad5a) (by decide) ww_k1 ww_fl0 ww_so ww_so2 kc_J7_fill_bad5a kv_J7_fill_bad5a kg_J7_fill_bad5a ?_ ha_J7_fill_bad5a bd_J7_fill_bad5a
  intro k i q hi hq
  match k, hi, hq with
  | 0, hi, hq => cases hi; cases hq; exact fun p e s m args below meth c D tys tC ad Q pc X hdg => qq_cS X ww_gd (M_J7_rangeCheck_23922 l) kf_J7_rangeCheck_23922.1 (Or.inl (ww_a2 (i := 231) (w := Cond.methodLink RJ7 13 yJ7_rangeCheck_23922) rfl rfl)) kf_J7_rangeCheck_23922.2.1 kf_J7_rangeCheck_23922.2.2 ⟨by decide, by decide, by decide +kernel⟩ rfl rfl ⟨by decide, by decide⟩ ⟨Nat.le_refl _, Nat.le_refl _⟩ hdg
  | n + 1, hi, hq => simp [cs_J7_fill_bad5a] at hq
abbrev cs_X1_into : List (Nat × qq_t) := [(3, T_X3_of), (2, T_J9_min_7cf53), (3, T_X3_localsFrom)]
/-- the facts to which a fact goes IN at a CALL -/
def cInto (w : qq_w) (c i g : Nat) : Prop := (i ≤ 4 ∧ g = i) ∨ (∃ k, k < qn (w.1 13 (10 * c + 8)) ∧ k < qn (w.1 10 (qn (w.1 13 (10 * c + 5)))) ∧ w.1 14 (4 * c + k) = nI i ∧ g = 5 + k) ∨ (w.1 2 2 = 1 ∧ i = 0 ∧ 5 + qn (w.1 10 (qn (w.1 13 (10 * c + 5)))) ≤ g ∧ g < 5 + qn (w.1 9 (qn (w.1 13 (10 * c + 5)))))
theorem lf_bits : ∀ a, a < 9 → ∀ b, b < 9 → b ≤ a → ∀ g, g < 32 → bt (((1 : Int32) <<< ((5 + nI a) &&& 31)) - ((1 : Int32) <<< ((5 + nI b) &&& 31))) g = decide (5 + b ≤ g ∧ g < 5 + a) := by decide +kernel
def T_X1_into : qq_t := fun As w P => match As with
  | [.ref 2, .int a, .int f] => (vp_in a 64 ∧ vp_in f 13 ∧ vp_in (w.1 13 (10 * qn a + 5)) 8 ∧ vp_in (w.1 13 (10 * qn a + 8)) 5 ∧ vp_in (w.1 10 (qn (w.1 13 (10 * qn a + 5)))) 5 ∧ vp_in (w.1 9 (qn (w.1 13 (10 * qn a + 5)))) 9 ∧ qn (w.1 10 (qn (w.1 13 (10 * qn a + 5)))) ≤ qn (w.1 9 (qn (w.1 13 (10 * qn a + 5))))) ∧ ∀ x, (∀ g, bt x g = true ↔ cInto w (qn a) (qn f) g) → P (some (.int x)) w
  | _ => False
theorem lp_into {P : Option Value → qq_w → Prop} {K : Nat → qq_L → List Value → qq_w → Prop} (S : qq_Sat ww_sh ww_ro cs_X1_into (qq_at 130 kd_X1_into) (some .int) P K) {w : qq_w} {a f x3 x4 : Int32} {n i0 p m0 q0 l0 : Nat} (ha : a = nI n) (hn : n < 64) (hf : f = nI i0) (hi0 : i0 < 13) (e3 : x3 = nI p) (hp : p < 8) (e4 : x4 = nI m0) (hm0 : m0 ≤ 4) (eq0 : w.1 10 p = nI q0) (hq0 : q0 < 5) (el0 : w.1 9 p = nI l0) (hl0 : l0 < 9) (hql : q0 ≤ l0)
    (hq : ∀ x, (∀ g, bt x g = true ↔ (i0 ≤ 4 ∧ g = i0) ∨ (∃ k, k < m0 ∧ w.1 14 (4 * n + k) = nI i0 ∧ g = 5 + k) ∨ (w.1 2 2 = 1 ∧ i0 = 0 ∧ 5 + q0 ≤ g ∧ g < 5 + l0)) → P (some (.int x)) w) :
    ∀ m i, i + m = m0 → ∀ x5 x6 : Int32, x6 = nI i → (∀ g, bt x5 g = true ↔ (i0 ≤ 4 ∧ g = i0) ∨ (∃ k, k < i ∧ w.1 14 (4 * n + k) = nI i0 ∧ g = 5 + k)) → K 51 [(0, .ref 2), (1, .int a), (2, .int f), (3, .int x3), (4, .int x4), (5, .int x5), (6, .int x6)] [] w := by
  intro m
  induction m with
  | zero =>
    intro i hi x5 x6 e6 h5
    have : i = m0 := by omega
    subst this
    refine qq_go_ok S (fun pc => Nat.beq pc 51) 80 ?_
    conv => whnf
    refine br_t (i_ge' e6 e4 (by omega) (by omega)) ?_
    conv => whnf
    have nothing : ¬ (w.1 2 2 = 1 ∧ i0 = 0) → P (some (.int x5)) w := fun z => hq x5 fun g => by
      rw [h5 g]
      constructor
      · rintro (y | y)
        · exact Or.inl y
        · exact Or.inr (Or.inl y)
      · rintro (y | y | ⟨y1, y2, -⟩)
        · exact Or.inl y
        · exact Or.inr y
        · exact absurd ⟨y1, y2⟩ z
    refine ⟨fun h => ?_, fun h => ?_⟩
    · conv => whnf
      exact nothing fun z => h z.1
    conv => whnf
    refine ⟨fun h2 => ?_, fun h2 => ?_⟩
    · conv => whnf
      refine nothing fun z => h2 ?_
      rw [hf, z.2]
      rfl
    conv => whnf
    have hi00 : i0 = 0 := by
      rw [hf] at h2
      exact (nI_eq (b := 0) (by omega) (by omega)).mp h2
    refine ⟨i_in 8 e3 hp (by decide), ?_⟩
    conv => whnf
    refine ⟨i_in 8 e3 hp (by decide), ?_⟩
    conv => whnf
    refine hq _ fun g => ?_
    have c3 := i_c e3 (by omega)
    rw [b_or, Bool.or_eq_true, h5 g]
    show _ ∨ bt (((1 : Int32) <<< ((5 + w.1 9 x3.toNatClampNeg) &&& 31)) - ((1 : Int32) <<< ((5 + w.1 10 x3.toNatClampNeg) &&& 31))) g = true ↔ _
    rw [c3, eq0, el0]
    have hbits : bt (((1 : Int32) <<< ((5 + nI l0) &&& 31)) - ((1 : Int32) <<< ((5 + nI q0) &&& 31))) g = true ↔ 5 + q0 ≤ g ∧ g < 5 + l0 := by
      rcases Nat.lt_or_ge g 32 with z | z
      · rw [lf_bits l0 hl0 q0 (by omega) hql g z, decide_eq_true_eq]
      · rw [b_big z]
        constructor
        · intro y; cases y
        · rintro ⟨-, y⟩; omega
    rw [hbits]
    constructor
    · rintro ((y | y) | y)
      · exact Or.inl y
      · exact Or.inr (Or.inl y)
      · exact Or.inr (Or.inr ⟨h, hi00, y⟩)
    · rintro (y | y | ⟨-, -, y⟩)
      · exact Or.inl (Or.inl y)
      · exact Or.inl (Or.inr y)
      · exact Or.inr y
  | succ m ih =>
    intro i hi x5 x6 e6 h5
    refine qq_go_ok S (fun pc => Nat.beq pc 51) 80 ?_
    conv => whnf
    refine br_f (i_lt' e6 e4 (by omega) (by omega)) ?_
    conv => whnf
    have e := nI_ml ha e6 (nI_lit 4)
    refine ⟨i_in 256 e (by omega) (by decide), ?_⟩
    conv => whnf
    have ce : w.1 14 (a * 4 + x6).toNatClampNeg = w.1 14 (4 * n + i) := by rw [i_c e (by omega)]
    refine ⟨fun h => ?_, fun h => ?_⟩
    · conv => whnf
      have h : ¬ w.1 14 (a * 4 + x6).toNatClampNeg = f := h
      rw [ce, hf] at h
      refine qq_wk S (ih (i + 1) (by omega) _ _ (i_s e6) (fun g => ?_)) ⟨rfl, rfl, rfl, rfl, rfl, rfl, rfl, trivial⟩
      rw [h5 g]
      refine or_congr Iff.rfl ⟨?_, ?_⟩
      · rintro ⟨k, z1, z2⟩; exact ⟨k, by omega, z2⟩
      · rintro ⟨k, z1, z2, z3⟩
        by_cases q : k = i
        · subst q; exact absurd z2 h
        · exact ⟨k, by omega, z2, z3⟩
    · conv => whnf
      have h : w.1 14 (a * 4 + x6).toNatClampNeg = f := h
      rw [ce, hf] at h
      refine qq_wk S (ih (i + 1) (by omega) _ _ (i_s e6) (fun g => ?_)) ⟨rfl, rfl, rfl, rfl, rfl, rfl, rfl, trivial⟩
      have e56 : (5 : Int32) + x6 = nI (5 + i) := by rw [e6]; exact nI_add 5 i
      rw [b_or, Bool.or_eq_true, h5 g, e56, b_one (by omega), decide_eq_true_eq]
      constructor
      · rintro ((y | ⟨k, z1, z2⟩) | y)
        · exact Or.inl y
        · exact Or.inr ⟨k, by omega, z2⟩
        · exact Or.inr ⟨i, by omega, h, y⟩
      · rintro (y | ⟨k, z1, z2, z3⟩)
        · exact Or.inl (Or.inl y)
        · by_cases q : k = i
          · subst q; exact Or.inr z3
          · exact Or.inl (Or.inr ⟨k, by omega, z2, z3⟩)
set_option maxHeartbeats 4000000 in
set_option maxRecDepth 100000 in
theorem bd_X1_into : ∀ As w P K, qq_Sat ww_sh ww_ro cs_X1_into (qq_at 130 kd_X1_into) (some .int) P K → T_X1_into As w P → K 0 (lv_args 0 As) [] w := by
  intro As w P K S h
  unfold T_X1_into at h
  split at h
  · rename_i a f
    obtain ⟨⟨hp, hp2, hp3, hp4, hp5, hp6, hp7⟩, hq⟩ := h
    obtain ⟨ea, ha⟩ := qn_eq hp (by decide)
    obtain ⟨ef, hf⟩ := qn_eq hp2 (by decide)
    obtain ⟨e5, h5⟩ := qn_eq hp3 (by decide)
    obtain ⟨e8, h8⟩ := qn_eq hp4 (by decide)
    obtain ⟨e10, h10⟩ := qn_eq hp5 (by decide)
    obtain ⟨e9, h9⟩ := qn_eq hp6 (by decide)
    have i5 := nI_ml ea (x := 5) (i := 5) rfl (nI_lit 10)
    have i8 := nI_ml ea (x := 8) (i := 8) rfl (nI_lit 10)
    have c5 : w.1 13 (a * 10 + 5).toNatClampNeg = nI (qn (w.1 13 (10 * qn a + 5))) := by rw [i_c i5 (by omega)]; exact e5
    have c8 : w.1 13 (a * 10 + 8).toNatClampNeg = nI (qn (w.1 13 (10 * qn a + 8))) := by rw [i_c i8 (by omega)]; exact e8
    have c10 : w.1 10 (w.1 13 (a * 10 + 5).toNatClampNeg).toNatClampNeg = nI (qn (w.1 10 (qn (w.1 13 (10 * qn a + 5))))) := by rw [i_c c5 (by omega)]; exact e10
    refine qq_go_ok S (fun pc => Nat.beq pc 51) 80 ?_
    conv => whnf
    refine ⟨i_in 640 i5 (by omega) (by decide), ?_⟩
    conv => whnf
    refine ⟨i_in 640 i8 (by omega) (by decide), ?_⟩
    conv => whnf
    refine ⟨i_in 8 c5 (by omega) (by decide), ?_⟩
    conv => whnf
    have emin : (if w.1 10 (w.1 13 (a * 10 + 5).toNatClampNeg).toNatClampNeg < w.1 13 (a * 10 + 8).toNatClampNeg then w.1 10 (w.1 13 (a * 10 + 5).toNatClampNeg).toNatClampNeg else w.1 13 (a * 10 + 8).toNatClampNeg) = nI (min (qn (w.1 13 (10 * qn a + 8))) (qn (w.1 10 (qn (w.1 13 (10 * qn a + 5)))))) := by
      rw [c10, c8]
      by_cases z : qn (w.1 10 (qn (w.1 13 (10 * qn a + 5)))) < qn (w.1 13 (10 * qn a + 8))
      · rw [if_pos (nI_lt z (by omega)), Nat.min_eq_right (by omega)]
      · rw [if_neg (nI_nlt (by omega) (by omega)), Nat.min_eq_left (by omega)]
    have hq' : ∀ x, (∀ g, bt x g = true ↔ (qn f ≤ 4 ∧ g = qn f) ∨ (∃ k, k < min (qn (w.1 13 (10 * qn a + 8))) (qn (w.1 10 (qn (w.1 13 (10 * qn a + 5))))) ∧ w.1 14 (4 * qn a + k) = nI (qn f) ∧ g = 5 + k) ∨ (w.1 2 2 = 1 ∧ qn f = 0 ∧ 5 + qn (w.1 10 (qn (w.1 13 (10 * qn a + 5)))) ≤ g ∧ g < 5 + qn (w.1 9 (qn (w.1 13 (10 * qn a + 5)))))) → P (some (.int x)) w := by
      intro x hx
      refine hq x fun g => ?_
      rw [hx g]
      unfold cInto
      refine or_congr Iff.rfl (or_congr ⟨?_, ?_⟩ Iff.rfl)
      · rintro ⟨k, z1, z2⟩; exact ⟨k, by omega, by omega, z2⟩
      · rintro ⟨k, z1, z2, z3⟩; exact ⟨k, by omega, z3⟩
    have L := lp_into S (x3 := w.1 13 (a * 10 + 5).toNatClampNeg) (x4 := (if w.1 10 (w.1 13 (a * 10 + 5).toNatClampNeg).toNatClampNeg < w.1 13 (a * 10 + 8).toNatClampNeg then w.1 10 (w.1 13 (a * 10 + 5).toNatClampNeg).toNatClampNeg else w.1 13 (a * 10 + 8).toNatClampNeg)) ea ha ef hf c5 h5 emin (by omega) e10 h10 e9 h9 hp7 hq' (min (qn (w.1 13 (10 * qn a + 8))) (qn (w.1 10 (qn (w.1 13 (10 * qn a + 5)))))) 0 (Nat.zero_add _)
    refine ⟨fun h => ?_, fun h => ?_⟩
    · conv => whnf
      refine qq_wk S (L _ _ rfl (fun g => ?_)) ⟨rfl, rfl, rfl, rfl, rfl, rfl, rfl, trivial⟩
      rw [b_0]
      have : ¬ qn f ≤ 4 := by
        intro z
        rw [ef] at h
        exact absurd h (nI_nlt (a := 4) z (by omega))
      constructor
      · intro y; cases y
      · rintro (⟨y, -⟩ | ⟨k, y, -⟩) <;> omega
    · conv => whnf
      refine qq_wk S (L _ _ rfl (fun g => ?_)) ⟨rfl, rfl, rfl, rfl, rfl, rfl, rfl, trivial⟩
      have : qn f ≤ 4 := by
        rcases Nat.lt_or_ge 4 (qn f) with z | z
        · rw [ef] at h
          exact absurd (nI_lt (a := 4) z (by omega)) h
        · exact z
      have e1 : bt ((1 : Int32) <<< (f &&& 31)) g = decide (g = qn f) := by
        have := b_one (n := qn f) (by omega) g
        rw [← ef] at this
        exact this
      rw [e1, decide_eq_true_eq]
      constructor
      · intro y; exact Or.inl ⟨this, y⟩
      · rintro (⟨-, y⟩ | ⟨k, y, -⟩)
        · exact y
        · omega
  · exact h.elim
theorem ha_X1_into : ∀ As w P, T_X1_into As w P → qq_wd As ≤ 7 := by
  intro As w P h
  unfold T_X1_into at h
  split at h
  · exact Nat.le_of_ble_eq_true rfl
  · exact h.elim
theorem hv_X1_into : ∀ As w P, T_X1_into As w P → ∃ (k : Nat) (r : List Value) (fs : List Nat), As = .ref k :: r ∧ ww_sh[k]? = some (.inr (1, fs)) := by
  intro As w P h
  unfold T_X1_into at h
  split at h
  · exact ⟨_, _, _, rfl, rfl⟩
  · exact h.elim
set_option maxRecDepth 100000 in
theorem M_X1_into (l : Launch) : qq_M l ww_T ww_N vwCl ww_sh ww_ro ww_zs yX1_into cX1_into 7 (some .int) (ww_rm 1) T_X1_into := by
  refine qq_mk (host := RX7) (is := ki_X1_into) (cs := cs_X1_into) (by decide) ww_k1 wl_X1 ww_so ww_so2 kc_X1_into kv_X1_into kg_X1_into ?_ ha_X1_into bd_X1_into
  intro k i q hi hq
  match k, hi, hq with
  | 0, hi, hq => cases hi; cases hq; exact fun p e s m args below meth c D tys tC ad Q pc X hdg => qq_cV (ci := 3) X ww_gd (M_X3_of l) kf_X3_of.1 (Or.inl (ww_a3 (i := 11) (w := Cond.methodLink RX1 60 yX3_of) rfl rfl)) kf_X3_of.2.1 kf_X3_of.2.2.1 kf_X3_of.2.2.2 ⟨by decide, by decide, by decide +kernel⟩ rfl rfl rfl ⟨by decide, by decide⟩ ⟨Nat.le_refl _, Nat.le_refl _⟩ hv_X3_of hdg
  | 1, hi, hq => cases hi; cases hq; exact cf_mmin (by decide) (ww_a3 (i := 21) (w := Cond.methodLink RX1 70 Lib.Math.min.name) rfl rfl)
  | 2, hi, hq => cases hi; cases hq; exact fun p e s m args below meth c D tys tC ad Q pc X hdg => qq_cV (ci := 3) X ww_gd (M_X3_localsFrom l) kf_X3_localsFrom.1 (Or.inl (ww_a3 (i := 22) (w := Cond.methodLink RX1 36 yX3_localsFrom) rfl rfl)) kf_X3_localsFrom.2.1 kf_X3_localsFrom.2.2.1 kf_X3_localsFrom.2.2.2 ⟨by decide, by decide, by decide +kernel⟩ rfl rfl rfl ⟨by decide, by decide⟩ ⟨Nat.le_refl _, Nat.le_refl _⟩ hv_X3_localsFrom hdg
  | n + 3, hi, hq => simp [cs_X1_into] at hq
