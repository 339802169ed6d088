abbrev cs_X8_into : List (Nat × qq_t) := [(1, T_X8_bit)]
def T_X8_into : qq_t := fun As w P => match As with
  | [.ref 8, .int a, .int f] => (vp_in a 64 ∧ vp_in f 13 ∧ vp_in (w.1 47 (qn a)) 8 ∧ vp_in (w.1 50 (qn a)) 5 ∧ vp_in (w.1 38 (qn (w.1 47 (qn a)))) 5 ∧ vp_in (w.1 37 (qn (w.1 47 (qn a)))) 9 ∧ qn (w.1 38 (qn (w.1 47 (qn a)))) ≤ qn (w.1 37 (qn (w.1 47 (qn a))))) ∧ ∀ x, (∀ g, bt x g = true ↔ mInto w (qn a) (qn f) g) → P (some (.int x)) w
  | _ => False
theorem mi_92 {P : Option Value → qq_w → Prop} {K : Nat → qq_L → List Value → qq_w → Prop} (S : qq_Sat ww_sh ww_ro cs_X8_into (qq_at 136 kd_X8_into) (some .int) P K) {w : qq_w} {f x3 b : Int32} {i0 p q0 l0 : Nat} (hf : f = nI i0) (hi0 : i0 < 13) (e3 : x3 = nI p) (hp : p < 8) (el0 : w.1 37 p = nI l0) (hl0 : l0 < 9) (hql : q0 ≤ l0)
    (hq : ∀ x, (∀ g, bt x g = true ↔ bt b g = true ∨ (w.1 8 23 = 1 ∧ i0 = 0 ∧ 5 + q0 ≤ g ∧ g < 5 + l0)) → P (some (.int x)) w) :
    ∀ m i, i + m = l0 → q0 ≤ i → ∀ x4 x5 : Int32, x5 = nI i → (∀ g, bt x4 g = true ↔ bt b g = true ∨ (w.1 8 23 = 1 ∧ i0 = 0 ∧ 5 + q0 ≤ g ∧ g < 5 + i)) → K 92 [(0, .ref 8), (2, .int f), (3, .int x3), (4, .int x4), (5, .int x5)] [] w := by
  have c3 := i_c e3 (by omega)
  have cl : w.1 37 x3.toNatClampNeg = nI l0 := by rw [c3]; exact el0
  intro m
  induction m with
  | zero =>
    intro i hi hqi x4 x5 e5 h4
    have : i = l0 := by omega
    subst this
    refine qq_go_ok S (fun pc => Nat.beq pc 92) 60 ?_
    conv => whnf
    refine ⟨i_in 8 e3 hp (by decide), ?_⟩
    conv => whnf
    refine br_t (i_ge' e5 cl (by omega) (by omega)) ?_
    conv => whnf
    exact hq _ h4
  | succ m ih =>
    intro i hi hqi x4 x5 e5 h4
    refine qq_go_ok S (fun pc => Nat.beq pc 92) 60 ?_
    conv => whnf
    refine ⟨i_in 8 e3 hp (by decide), ?_⟩
    conv => whnf
    refine br_f (i_lt' e5 cl (by omega) (by omega)) ?_
    conv => whnf
    have stop : ¬ (w.1 8 23 = 1 ∧ i0 = 0) → P (some (.int x4)) w := fun z => hq x4 fun g => by
      rw [h4 g]
      constructor
      · rintro (y | ⟨y1, y2, -⟩)
        · exact Or.inl y
        · exact absurd ⟨y1, y2⟩ z
      · rintro (y | ⟨y1, y2, -⟩)
        · exact Or.inl y
        · exact absurd ⟨y1, y2⟩ z
    refine ⟨fun h => ?_, fun h => ?_⟩
    · conv => whnf
      exact stop fun z => h (by rw [hf, z.2]; rfl)
    have hi00 : i0 = 0 := by
      rw [hf] at h
      exact (nI_eq (b := 0) (by omega) (by omega)).mp h
    conv => whnf
    refine ⟨fun h2 => ?_, fun h2 => ?_⟩
    · conv => whnf
      exact stop fun z => h2 z.1
    have h2 : w.1 8 23 = 1 := h2
    conv => whnf
    refine ⟨trivial, ?_⟩
    conv => whnf
    refine qq_wk S (ih (i + 1) (by omega) (by omega) _ _ (i_s e5) (fun g => ?_)) ⟨rfl, rfl, rfl, rfl, rfl, trivial⟩
    have e55 : (5 : Int32) + x5 = nI (5 + i) := by rw [e5]; exact nI_add 5 i
    rw [b_or, Bool.or_eq_true, h4 g, e55, mbit_nI (by omega), decide_eq_true_eq]
    constructor
    · rintro ((y | ⟨y1, y2, y3⟩) | y)
      · exact Or.inl y
      · exact Or.inr ⟨y1, y2, by omega, by omega⟩
      · exact Or.inr ⟨h2, hi00, by omega, by omega⟩
    · rintro (y | ⟨y1, y2, y3, y4⟩)
      · exact Or.inl (Or.inl y)
      · by_cases q : g = 5 + i
        · exact Or.inr q
        · exact Or.inl (Or.inr ⟨y1, y2, y3, by omega⟩)
theorem mi_25 {P : Option Value → qq_w → Prop} {K : Nat → qq_L → List Value → qq_w → Prop} (S : qq_Sat ww_sh ww_ro cs_X8_into (qq_at 136 kd_X8_into) (some .int) P K) {w : qq_w} {a f x3 : Int32} {n i0 p q0 r0 l0 : Nat} (ha : a = nI n) (hn : n < 64) (hf : f = nI i0) (hi0 : i0 < 13) (e3 : x3 = nI p) (hp : p < 8) (eq0 : w.1 38 p = nI q0) (hq0 : q0 < 5) (er0 : w.1 50 n = nI r0) (hr0 : r0 < 5) (el0 : w.1 37 p = nI l0) (hl0 : l0 < 9) (hql : q0 ≤ l0)
    (hq : ∀ x, (∀ g, bt x g = true ↔ (i0 ≤ 4 ∧ g = i0) ∨ (∃ k, k < r0 ∧ k < q0 ∧ w.1 51 (4 * n + k) = nI i0 ∧ g = 5 + k) ∨ (w.1 8 23 = 1 ∧ i0 = 0 ∧ 5 + q0 ≤ g ∧ g < 5 + l0)) → P (some (.int x)) w) :
    ∀ m i, i + m = min r0 q0 → ∀ x4 x5 : Int32, x5 = nI i → (∀ g, bt x4 g = true ↔ (i0 ≤ 4 ∧ g = i0) ∨ (∃ k, k < i ∧ w.1 51 (4 * n + k) = nI i0 ∧ g = 5 + k)) → K 25 [(0, .ref 8), (1, .int a), (2, .int f), (3, .int x3), (4, .int x4), (5, .int x5)] [] w := by
  have c3 := i_c e3 (by omega)
  have cq : w.1 38 x3.toNatClampNeg = nI q0 := by rw [c3]; exact eq0
  have ca := i_c ha (by omega)
  have cr : w.1 50 a.toNatClampNeg = nI r0 := by rw [ca]; exact er0
  intro m
  induction m with
  | zero =>
    intro i hi x4 x5 e5 h4
    have L : K 92 [(0, .ref 8), (2, .int f), (3, .int x3), (4, .int x4), (5, .int (nI q0))] [] w := by
      refine mi_92 S (b := x4) hf hi0 e3 hp el0 hl0 hql (fun x hx => hq x fun g => ?_) (l0 - q0) q0 (by omega) (Nat.le_refl q0) x4 (nI q0) rfl (fun g => ?_)
      · rw [hx g, h4 g]
        constructor
        · rintro ((y | ⟨k, y1, y2⟩) | y)
          · exact Or.inl y
          · exact Or.inr (Or.inl ⟨k, by omega, by omega, y2⟩)
          · exact Or.inr (Or.inr y)
        · rintro (y | ⟨k, y1, y2, y3⟩ | y)
          · exact Or.inl (Or.inl y)
          · exact Or.inl (Or.inr ⟨k, by omega, y3⟩)
          · exact Or.inr y
      · constructor
        · exact Or.inl
        · rintro (y | ⟨-, -, y1, y2⟩)
          · exact y
          · omega
    have e92 : (some (Value.int (w.1 38 x3.toNatClampNeg)) : Option Value) = some (.int (nI q0)) := by rw [cq]
    refine qq_go_ok S (fun pc => Nat.beq pc 25 || Nat.beq pc 92) 60 ?_
    conv => whnf
    refine ⟨i_in 8 e3 hp (by decide), ?_⟩
    conv => whnf
    refine ⟨fun h => ?_, fun h => ?_⟩
    · conv => whnf
      refine ⟨i_in 8 e3 hp (by decide), ?_⟩
      conv => whnf
      exact qq_wk S L ⟨rfl, rfl, rfl, rfl, e92, trivial⟩
    have h : ¬ w.1 38 x3.toNatClampNeg ≤ x5 := h
    rw [cq, e5, nI_leI (by omega) (by omega)] at h
    conv => whnf
    refine ⟨i_in 64 ha hn (by decide), ?_⟩
    conv => whnf
    refine br_t (i_ge' e5 cr (by omega) (by omega)) ?_
    conv => whnf
    refine ⟨i_in 8 e3 hp (by decide), ?_⟩
    conv => whnf
    exact qq_wk S L ⟨rfl, rfl, rfl, rfl, e92, trivial⟩
  | succ m ih =>
    intro i hi x4 x5 e5 h4
    refine qq_go_ok S (fun pc => Nat.beq pc 25 || Nat.beq pc 92) 60 ?_
    conv => whnf
    refine ⟨i_in 8 e3 hp (by decide), ?_⟩
    conv => whnf
    refine br_f (i_lt' e5 cq (by omega) (by omega)) ?_
    conv => whnf
    refine ⟨i_in 64 ha hn (by decide), ?_⟩
    conv => whnf
    refine br_f (i_lt' e5 cr (by omega) (by omega)) ?_
    conv => whnf
    have e := nI_mr ha e5 (nI_lit 4)
    refine ⟨i_in 256 e (by omega) (by decide), ?_⟩
    conv => whnf
    have ce : w.1 51 (4 * a + x5).toNatClampNeg = w.1 51 (4 * n + i) := by rw [i_c e (by omega)]
    refine ⟨fun h => ?_, fun h => ?_⟩
    · conv => whnf
      have h : ¬ w.1 51 (4 * a + x5).toNatClampNeg = f := h
      rw [ce, hf] at h
      refine qq_wk S (ih (i + 1) (by omega) _ _ (i_s e5) (fun g => ?_)) ⟨rfl, rfl, rfl, rfl, rfl, rfl, trivial⟩
      rw [or0, h4 g]
      refine or_congr Iff.rfl ⟨?_, ?_⟩
      · rintro ⟨k, z1, z2⟩; exact ⟨k, by omega, z2⟩
      · rintro ⟨k, z1, z2, z3⟩
        by_cases q : k = i
        · subst q; exact absurd z2 h
        · exact ⟨k, by omega, z2, z3⟩
    · conv => whnf
      have h : w.1 51 (4 * a + x5).toNatClampNeg = f := h
      rw [ce, hf] at h
      refine ⟨trivial, ?_⟩
      conv => whnf
      refine qq_wk S (ih (i + 1) (by omega) _ _ (i_s e5) (fun g => ?_)) ⟨rfl, rfl, rfl, rfl, rfl, rfl, trivial⟩
      have e55 : (5 : Int32) + x5 = nI (5 + i) := by rw [e5]; exact nI_add 5 i
      rw [b_or, Bool.or_eq_true, h4 g, e55, mbit_nI (by omega), decide_eq_true_eq]
      constructor
      · rintro ((y | ⟨k, z1, z2⟩) | y)
        · exact Or.inl y
        · exact Or.inr ⟨k, by omega, z2⟩
        · exact Or.inr ⟨i, by omega, h, y⟩
      · rintro (y | ⟨k, z1, z2, z3⟩)
        · exact Or.inl (Or.inl y)
        · by_cases q : k = i
          · subst q; exact Or.inr z3
          · exact Or.inl (Or.inr ⟨k, by omega, z2, z3⟩)
set_option maxHeartbeats 4000000 in
set_option maxRecDepth 100000 in
theorem bd_X8_into : ∀ As w P K, qq_Sat ww_sh ww_ro cs_X8_into (qq_at 136 kd_X8_into) (some .int) P K → T_X8_into As w P → K 0 (lv_args 0 As) [] w := by
  intro As w P K S h
  unfold T_X8_into at h
  split at h
  · rename_i a f
    obtain ⟨⟨hp, hp2, hp3, hp4, hp5, hp6, hp7⟩, hq⟩ := h
    obtain ⟨ea, ha⟩ := qn_eq hp (by decide)
    obtain ⟨ef, hf⟩ := qn_eq hp2 (by decide)
    obtain ⟨e5, h5⟩ := qn_eq hp3 (by decide)
    obtain ⟨e8, h8⟩ := qn_eq hp4 (by decide)
    obtain ⟨e10, h10⟩ := qn_eq hp5 (by decide)
    obtain ⟨e9, h9⟩ := qn_eq hp6 (by decide)
    have L := mi_25 S (x3 := w.1 47 (qn a)) ea ha ef hf e5 h5 e10 h10 e8 h8 e9 h9 hp7 hq (min (qn (w.1 50 (qn a))) (qn (w.1 38 (qn (w.1 47 (qn a)))))) 0 (Nat.zero_add _)
    refine qq_go_ok S (fun pc => Nat.beq pc 25) 60 ?_
    conv => whnf
    refine ⟨hp, ?_⟩
    conv => whnf
    refine ⟨fun h => ?_, fun h => ?_⟩
    · conv => whnf
      refine qq_wk S (L 0 0 rfl (fun g => ?_)) ⟨rfl, rfl, rfl, rfl, rfl, rfl, trivial⟩
      rw [b_0]
      have : ¬ qn f ≤ 4 := by
        intro z
        rw [ef] at h
        exact absurd h (nI_nlt (a := 4) z (by omega))
      constructor
      · intro y; cases y
      · rintro (⟨y, -⟩ | ⟨k, y, -⟩) <;> omega
    · conv => whnf
      refine ⟨trivial, ?_⟩
      conv => whnf
      refine qq_wk S (L (mbit f) 0 rfl (fun g => ?_)) ⟨rfl, rfl, rfl, rfl, rfl, rfl, trivial⟩
      have : qn f ≤ 4 := by
        rcases Nat.lt_or_ge 4 (qn f) with z | z
        · rw [ef] at h
          exact absurd (nI_lt (a := 4) z (by omega)) h
        · exact z
      have e1 : bt (mbit f) g = decide (g = qn f) := by
        have := mbit_nI (i := qn f) (by omega) g
        rw [← ef] at this
        exact this
      rw [e1, decide_eq_true_eq]
      constructor
      · intro y; exact Or.inl ⟨this, y⟩
      · rintro (⟨-, y⟩ | ⟨k, y, -⟩)
        · exact y
        · omega
  · exact h.elim
theorem ha_X8_into : ∀ As w P, T_X8_into As w P → qq_wd As ≤ 6 := by
  intro As w P h
  unfold T_X8_into at h
  split at h
  · exact Nat.le_of_ble_eq_true rfl
  · exact h.elim
theorem hv_X8_into : ∀ As w P, T_X8_into As w P → ∃ (k : Nat) (r : List Value) (fs : List Nat), As = .ref k :: r ∧ ww_sh[k]? = some (.inr (8, fs)) := by
  intro As w P h
  unfold T_X8_into at h
  split at h
  · exact ⟨_, _, _, rfl, rfl⟩
  · exact h.elim
set_option maxRecDepth 100000 in
theorem M_X8_into (l : Launch) : qq_M l ww_T ww_N vwCl ww_sh ww_ro ww_zs yX8_into cX8_into 6 (some .int) (ww_rm 1) T_X8_into := by
  refine qq_mk (host := RX7) (is := ki_X8_into) (cs := cs_X8_into) (by decide) ww_k1 wl_X8 ww_so ww_so2 kc_X8_into kv_X8_into kg_X8_into ?_ ha_X8_into bd_X8_into
  intro k i q hi hq
  match k, hi, hq with
  | 0, hi, hq => cases hi; cases hq; exact fun p e s m args below meth c D tys tC ad Q pc X hdg => qq_cS X ww_gd (M_X8_bit l) kf_X8_bit.1 (Or.inl (ww_a5 (i := 191) (w := Cond.methodLink RX8 169 yX8_bit) rfl rfl)) kf_X8_bit.2.1 kf_X8_bit.2.2 ⟨by decide, by decide, by decide +kernel⟩ rfl rfl ⟨by decide, by decide⟩ ⟨Nat.le_refl _, Nat.le_refl _⟩ hdg
  | n + 1, hi, hq => simp [cs_X8_into] at hq
abbrev cs_X8_flows : List (Nat × qq_t) := [(1, T_X8_bit), (3, T_X8_straight), (3, T_X8_across), (3, T_X8_into), (3, T_X8_back)]
/-- to which facts a fact goes, by the reference -/
def mTgt (w : qq_w) (n p : Nat) (f x : Int32) : Prop := (w.1 8 23 = 2 ∧ x = if f = 0 then 1 ||| (if w.1 54 (39 * n + 13 * p + qn f) = -5 then 0 else w.1 54 (39 * n + 13 * p + qn f)) else if w.1 54 (39 * n + 13 * p + qn f) = -5 then mbit f else w.1 54 (39 * n + 13 * p + qn f)) ∨ (¬ w.1 8 23 = 2 ∧ ¬ w.1 43 n = 9 ∧ x = mStr w n f) ∨ (¬ w.1 8 23 = 2 ∧ w.1 43 n = 9 ∧ ((p = 0 ∧ x = mAcr w n f) ∨ (p = 1 ∧ ∀ g, bt x g = true ↔ mInto w n (qn f) g) ∨ (p = 2 ∧ x = mBk w n f)))
def mFN (w : qq_w) (n : Nat) : Prop := w.1 43 n = 9 → vp_in (w.1 47 n) 8 ∧ vp_in (w.1 50 n) 5 ∧ vp_in (w.1 38 (qn (w.1 47 n))) 5 ∧ vp_in (w.1 37 (qn (w.1 47 n))) 9 ∧ qn (w.1 38 (qn (w.1 47 n))) ≤ qn (w.1 37 (qn (w.1 47 n)))
def T_X8_flows : qq_t := fun As w P => match As with
  | [.ref 8, .int a, .int p, .int f] => (vp_in a 64 ∧ vp_in p 3 ∧ vp_in f 13 ∧ mFN w (qn a)) ∧ ∀ x, mTgt w (qn a) (qn p) f x → P (some (.int x)) w
  | _ => False
set_option maxHeartbeats 4000000 in
set_option maxRecDepth 100000 in
theorem bd_X8_flows : ∀ As w P K, qq_Sat ww_sh ww_ro cs_X8_flows (qq_at 119 kd_X8_flows) (some .int) P K → T_X8_flows As w P → K 0 (lv_args 0 As) [] w := by
  intro As w P K S h
  unfold T_X8_flows at h
  split at h
  · rename_i a p f
    obtain ⟨⟨hp, hp2, hp3, hn⟩, hq⟩ := h
    obtain ⟨ea, ha⟩ := qn_eq hp (by decide)
    obtain ⟨ep, hpp⟩ := qn_eq hp2 (by decide)
    obtain ⟨ef, hf⟩ := qn_eq hp3 (by decide)
    refine qq_go_ok S (fun _ => false) 80 ?_
    conv => whnf
    refine ⟨fun hcl => ?_, fun hcl => ?_⟩
    · conv => whnf
      refine ⟨hp, ?_⟩
      conv => whnf
      refine ⟨fun h9 => ?_, fun h9 => ?_⟩
      · have h9 : w.1 43 (qn a) = 9 := h9
        obtain ⟨n5, n8, n10, n9, nle⟩ := hn h9
        conv => whnf
        refine ⟨fun h0 => ?_, fun h0 => ?_⟩
        · conv => whnf
          refine ⟨fun h1 => ?_, fun h1 => ?_⟩
          · conv => whnf
            refine ⟨⟨hp, n5⟩, ?_⟩
            conv => whnf
            refine hq _ (Or.inr (Or.inr ⟨hcl, h9, Or.inr (Or.inr ⟨?_, rfl⟩)⟩))
            rw [ep] at h0 h1
            have z0 : ¬ qn p = 0 := fun z => h0 (by rw [z]; rfl)
            have z1 : ¬ qn p = 1 := fun z => h1 (by rw [z]; rfl)
            omega
          · conv => whnf
            refine ⟨⟨hp, hp3, n5, n8, n10, n9, nle⟩, fun x hx => ?_⟩
            conv => whnf
            refine hq _ (Or.inr (Or.inr ⟨hcl, h9, Or.inr (Or.inl ⟨?_, hx⟩)⟩))
            rw [ep] at h1
            exact (nI_eq (b := 1) (by omega) (by omega)).mp h1
        · conv => whnf
          refine ⟨hp, ?_⟩
          conv => whnf
          refine hq _ (Or.inr (Or.inr ⟨hcl, h9, Or.inl ⟨?_, rfl⟩⟩))
          rw [ep] at h0
          exact (nI_eq (b := 0) (by omega) (by omega)).mp h0
      · have h9 : ¬ w.1 43 (qn a) = 9 := h9
        conv => whnf
        refine ⟨hp, ?_⟩
        conv => whnf
        exact hq _ (Or.inr (Or.inl ⟨hcl, h9, rfl⟩))
    · have hcl : w.1 8 23 = 2 := hcl
      conv => whnf
      have es : (39 : Int32) * a + 13 * p + f = nI (39 * qn a + 13 * qn p + qn f) := by
        have : nI 39 * a + nI 13 * p + f = nI (39 * qn a + 13 * qn p + qn f) := by
          conv => lhs; rw [ea, ep, ef]
          rw [pk_mul, pk_mul, nI_add, nI_add]
        exact this
      refine ⟨i_in 2496 es (by omega) (by decide), ?_⟩
      conv => whnf
      have cs : w.1 54 ((39 : Int32) * a + 13 * p + f).toNatClampNeg = w.1 54 (39 * qn a + 13 * qn p + qn f) := by rw [i_c es (by omega)]
      refine ⟨fun h0 => ?_, fun h0 => ?_⟩
      · conv => whnf
        refine ⟨fun h => ?_, fun h => ?_⟩
        · have h : ¬ w.1 54 ((39 : Int32) * a + 13 * p + f).toNatClampNeg = -5 := h
          rw [cs] at h
          conv => whnf
          refine hq _ (Or.inl ⟨hcl, ?_⟩)
          rw [if_neg h0, if_neg h]
          exact cs
        · have h : w.1 54 ((39 : Int32) * a + 13 * p + f).toNatClampNeg = -5 := h
          rw [cs] at h
          conv => whnf
          refine ⟨trivial, ?_⟩
          conv => whnf
          refine hq _ (Or.inl ⟨hcl, ?_⟩)
          rw [if_neg h0, if_pos h]
      · conv => whnf
        refine ⟨fun h => ?_, fun h => ?_⟩
        · have h : ¬ w.1 54 ((39 : Int32) * a + 13 * p + f).toNatClampNeg = -5 := h
          rw [cs] at h
          conv => whnf
          refine hq _ (Or.inl ⟨hcl, ?_⟩)
          rw [if_pos h0, if_neg h, ← cs]
        · have h : w.1 54 ((39 : Int32) * a + 13 * p + f).toNatClampNeg = -5 := h
          rw [cs] at h
          conv => whnf
          refine hq _ (Or.inl ⟨hcl, ?_⟩)
          rw [if_pos h0, if_pos h]
  · exact h.elim
theorem ha_X8_flows : ∀ As w P, T_X8_flows As w P → qq_wd As ≤ 5 := by
  intro As w P h
  unfold T_X8_flows at h
  split at h
  · exact Nat.le_of_ble_eq_true rfl
  · exact h.elim
theorem hv_X8_flows : ∀ As w P, T_X8_flows As w P → ∃ (k : Nat) (r : List Value) (fs : List Nat), As = .ref k :: r ∧ ww_sh[k]? = some (.inr (8, fs)) := by
  intro As w P h
  unfold T_X8_flows at h
  split at h
  · exact ⟨_, _, _, rfl, rfl⟩
  · exact h.elim
set_option maxRecDepth 100000 in
theorem M_X8_flows (l : Launch) : qq_M l ww_T ww_N vwCl ww_sh ww_ro ww_zs yX8_flows cX8_flows 5 (some .int) (ww_rm 2) T_X8_flows := by
  refine qq_mk (host := RX7) (is := ki_X8_flows) (cs := cs_X8_flows) (by decide) ww_k1 wl_X8 ww_so ww_so2 kc_X8_flows kv_X8_flows kg_X8_flows ?_ ha_X8_flows bd_X8_flows
  intro k i q hi hq
  match k, hi, hq with
  | 0, hi, hq => cases hi; cases hq; exact fun p e s m args below meth c D tys tC ad Q pc X hdg => qq_cS X ww_gd (M_X8_bit l) kf_X8_bit.1 (Or.inl (ww_a5 (i := 191) (w := Cond.methodLink RX8 169 yX8_bit) rfl rfl)) kf_X8_bit.2.1 kf_X8_bit.2.2 ⟨by decide, by decide, by decide +kernel⟩ rfl rfl ⟨by decide, by decide⟩ ⟨Nat.le_refl _, Nat.le_refl _⟩ hdg
  | 1, hi, hq => cases hi; cases hq; exact fun p e s m args below meth c D tys tC ad Q pc X hdg => qq_cV (ci := 8) X ww_gd (M_X8_straight l) kf_X8_straight.1 (Or.inl (ww_a5 (i := 194) (w := Cond.methodLink RX8 172 yX8_straight) rfl rfl)) kf_X8_straight.2.1 kf_X8_straight.2.2.1 kf_X8_straight.2.2.2 ⟨by decide, by decide, by decide +kernel⟩ rfl rfl rfl ⟨by decide, by decide⟩ ⟨Nat.le_refl _, Nat.le_refl _⟩ hv_X8_straight hdg
  | 2, hi, hq => cases hi; cases hq; exact fun p e s m args below meth c D tys tC ad Q pc X hdg => qq_cV (ci := 8) X ww_gd (M_X8_across l) kf_X8_across.1 (Or.inl (ww_a5 (i := 198) (w := Cond.methodLink RX8 175 yX8_across) rfl rfl)) kf_X8_across.2.1 kf_X8_across.2.2.1 kf_X8_across.2.2.2 ⟨by decide, by decide, by decide +kernel⟩ rfl rfl rfl ⟨by decide, by decide⟩ ⟨Nat.le_refl _, Nat.le_refl _⟩ hv_X8_across hdg
  | 3, hi, hq => cases hi; cases hq; exact fun p e s m args below meth c D tys tC ad Q pc X hdg => qq_cV (ci := 8) X ww_gd (M_X8_into l) kf_X8_into.1 (Or.inl (ww_a5 (i := 202) (w := Cond.methodLink RX8 178 yX8_into) rfl rfl)) kf_X8_into.2.1 kf_X8_into.2.2.1 kf_X8_into.2.2.2 ⟨by decide, by decide, by decide +kernel⟩ rfl rfl rfl ⟨by decide, by decide⟩ ⟨Nat.le_refl _, Nat.le_refl _⟩ hv_X8_into hdg
  | 4, hi, hq => cases hi; cases hq; exact fun p e s m args below meth c D tys tC ad Q pc X hdg => qq_cV (ci := 8) X ww_gd (M_X8_back l) kf_X8_back.1 (Or.inl (ww_a5 (i := 206) (w := Cond.methodLink RX8 181 yX8_back) rfl rfl)) kf_X8_back.2.1 kf_X8_back.2.2.1 kf_X8_back.2.2.2 ⟨by decide, by decide, by decide +kernel⟩ rfl rfl rfl ⟨by decide, by decide⟩ ⟨Nat.le_refl _, Nat.le_refl _⟩ hv_X8_back hdg
  | n + 5, hi, hq => simp [cs_X8_flows] at hq
abbrev cs_X8_reaches : List (Nat × qq_t) := []
/-- the reference's path edges, and the list of those that wait -/
def mR (w : qq_w) (c : Nat) : Prop := c < 10816 ∧ bt (w.1 56 (c / 13)) (c % 13) = true
def mW (w : qq_w) (f : Nat) : Prop := w.1 8 32 = nI f ∧ w.1 8 34 = nI f ∧ WL (w.1 58) f (mR w)
def mExt (w w' : qq_w) : Prop := qq_only [8, 56, 58] w w' ∧ (∀ j, j ≠ 32 → j ≠ 34 → w'.1 8 j = w.1 8 j) ∧ ∀ f, mW w f → ∃ f', f ≤ f' ∧ mW w' f' ∧ ∀ i, i < f → w'.1 58 i = w.1 58 i
theorem mExt_rf {w : qq_w} : mExt w w := ⟨qq_only_rf, fun _ _ _ => rfl, fun f h => ⟨f, Nat.le_refl f, h, fun _ _ => rfl⟩⟩
theorem mExt_tr {w w1 w2 : qq_w} (h : mExt w w1) (h2 : mExt w1 w2) : mExt w w2 := by
  refine ⟨qq_only_tr h.1 h2.1, fun j hj hj2 => (h2.2.1 j hj hj2).trans (h.2.1 j hj hj2), fun f hf => ?_⟩
  obtain ⟨f1, a1, a2, a3⟩ := h.2.2 f hf
  obtain ⟨f2, b1, b2, b3⟩ := h2.2.2 f1 a2
  exact ⟨f2, by omega, b2, fun i hi => (b3 i (by omega)).trans (a3 i hi)⟩
theorem mExt_W {w w1 : qq_w} (h : mExt w w1) (hf : ∃ f, mW w f) : ∃ f, mW w1 f := by
  obtain ⟨f, hf⟩ := hf
  obtain ⟨f1, -, a2, -⟩ := h.2.2 f hf
  exact ⟨f1, a2⟩
def mAdd (w w' : qq_w) (N : Nat → Nat → Prop) : Prop := mExt w w' ∧ ∀ j e, bt (w'.1 56 j) e = true ↔ bt (w.1 56 j) e = true ∨ N j e
def T_X8_reaches : qq_t := fun As w P => match As with
  | [.ref 8, .int b, .int a, .int x] => ((vp_in a 64 ∧ vp_in b 13 ∧ vp_in x 13) ∧ ∃ f, mW w f) ∧ ∀ w', mAdd w w' (fun j e => j = 13 * qn a + qn b ∧ e = qn x) → P none w'
  | _ => False
set_option maxHeartbeats 4000000 in
set_option maxRecDepth 100000 in
theorem bd_X8_reaches : ∀ As w P K, qq_Sat ww_sh ww_ro cs_X8_reaches (qq_at 72 kd_X8_reaches) none P K → T_X8_reaches As w P → K 0 (lv_args 0 As) [] w := by
  intro As w P K S h
  unfold T_X8_reaches at h
  split at h
  · rename_i b a x
    obtain ⟨⟨⟨hp, hp2, hp3⟩, f, hf⟩, hq⟩ := h
    obtain ⟨ea, ha⟩ := qn_eq hp (by decide)
    obtain ⟨eb, hb⟩ := qn_eq hp2 (by decide)
    obtain ⟨ex, hx⟩ := qn_eq hp3 (by decide)
    have ek := nI_mr ea eb (nI_lit 13)
    have ck := i_c ek (by omega)
    have hb' : ((w.1 56 (13 * a + b).toNatClampNeg) >>> (x &&& 31)) &&& 1 = 0 ↔ bt (w.1 56 (13 * qn a + qn b)) (qn x) = false := by
      rw [ck]
      have := b_has (n := qn x) (by omega) (w.1 56 (13 * qn a + qn b))
      rw [← ex] at this
      exact this
    refine qq_go_ok S (fun _ => false) 80 ?_
    conv => whnf
    refine ⟨i_in 832 ek (by omega) (by decide), ?_⟩
    conv => whnf
    refine ⟨fun h => ?_, fun h => ?_⟩
    · conv => whnf
      have h := bt_not (fun z => h (hb'.mpr z))
      refine hq w ⟨mExt_rf, fun j e => ?_⟩
      constructor
      · exact Or.inl
      · rintro (z | ⟨z1, z2⟩)
        · exact z
        · rw [z1, z2]; exact h
    · have h := hb'.mp h
      have hlt := WL_lt hf.2.2 (c := 13 * (13 * qn a + qn b) + qn x) (by omega) (by
        rintro ⟨-, z⟩
        rw [show (13 * (13 * qn a + qn b) + qn x) / 13 = 13 * qn a + qn b by omega, show (13 * (13 * qn a + qn b) + qn x) % 13 = qn x by omega, h] at z
        cases z)
      conv => whnf
      refine ⟨i_in 832 ek (by omega) (by decide), ?_⟩
      conv => whnf
      refine ⟨i_in 832 ek (by omega) (by decide), ?_⟩
      conv => whnf
      refine ⟨i_in 10816 hf.1 (by omega) (by decide), ?_⟩
      conv => whnf
      have ecode : (13 : Int32) * (13 * a + b) + x = nI (13 * (13 * qn a + qn b) + qn x) := nI_mr ek ex (nI_lit 13)
      have c32 := i_c hf.1 (by omega)
      have key : mAdd w (qq_ui (qq_ui (qq_ui (qq_ui w 56 (13 * a + b).toNatClampNeg (w.1 56 (13 * a + b).toNatClampNeg ||| 1 <<< (x &&& 31))) 58 (w.1 8 32).toNatClampNeg (13 * (13 * a + b) + x)) 8 32 (w.1 8 32 + 1)) 8 34 (w.1 8 34 + 1)) (fun j e => j = 13 * qn a + qn b ∧ e = qn x) := by
        generalize hw' : qq_ui (qq_ui (qq_ui (qq_ui w 56 (13 * a + b).toNatClampNeg (w.1 56 (13 * a + b).toNatClampNeg ||| 1 <<< (x &&& 31))) 58 (w.1 8 32).toNatClampNeg (13 * (13 * a + b) + x)) 8 32 (w.1 8 32 + 1)) 8 34 (w.1 8 34 + 1) = w'
        have r56 : w'.1 56 = upd (w.1 56) (13 * qn a + qn b) (w.1 56 (13 * qn a + qn b) ||| 1 <<< (x &&& 31)) := by
          rw [← hw', ← ck]
          rfl
        have r58 : w'.1 58 = upd (w.1 58) f (nI (13 * (13 * qn a + qn b) + qn x)) := by
          rw [← hw', ← c32, ← ecode]
          rfl
        have r8 : w'.1 8 = upd (upd (w.1 8) 32 (w.1 8 32 + 1)) 34 (w.1 8 34 + 1) := by
          rw [← hw']
          rfl
        have row : ∀ j e, bt (w'.1 56 j) e = true ↔ bt (w.1 56 j) e = true ∨ (j = 13 * qn a + qn b ∧ e = qn x) := by
          intro j e
          rw [r56, upd_at]
          by_cases hj : j = 13 * qn a + qn b
          · subst hj
            have e1 : bt ((1 : Int32) <<< (x &&& 31)) e = decide (e = qn x) := by
              have := b_one (n := qn x) (by omega) e
              rw [← ex] at this
              exact this
            rw [if_pos rfl, b_or, Bool.or_eq_true, e1, decide_eq_true_eq]
            exact or_congr Iff.rfl ⟨fun z => ⟨rfl, z⟩, fun z => z.2⟩
          · rw [if_neg hj]
            exact ⟨Or.inl, fun z => z.elim id (fun y => absurd y.1 hj)⟩
        refine ⟨⟨⟨by rw [← hw']; rfl, fun q hq => ?_⟩, fun j h32 h34 => ?_, fun g hg => ?_⟩, row⟩
        · have z8 : q ≠ 8 := fun z => hq (by simp [z])
          have z56 : q ≠ 56 := fun z => hq (by simp [z])
          have z58 : q ≠ 58 := fun z => hq (by simp [z])
          rw [← hw']
          simp only [qq_ui, va_up, z8, z56, z58, if_false]
        · rw [r8, upd_at, upd_at, if_neg h34, if_neg h32]
        · have l1 := WL_le hg.2.2
          have : g = f := (nI_eq (by omega) (by omega)).mp (hg.1.symm.trans hf.1)
          subst this
          refine ⟨g + 1, by omega, ⟨?_, ?_, ?_⟩, fun i hi => ?_⟩
          · rw [r8, upd_at, upd_at, if_neg (by decide), if_pos rfl]
            exact i_s hf.1
          · rw [r8, upd_at, if_pos rfl]
            exact i_s hf.2.1
          · rw [r58]
            refine WL_iff (WL_add hf.2.2 (by omega) (by
              rintro ⟨-, z⟩
              rw [show (13 * (13 * qn a + qn b) + qn x) / 13 = 13 * qn a + qn b by omega, show (13 * (13 * qn a + qn b) + qn x) % 13 = qn x by omega, h] at z
              cases z)) fun c => ?_
            unfold mR
            rw [row]
            constructor
            · rintro (⟨z1, z2⟩ | z)
              · exact ⟨z1, Or.inl z2⟩
              · exact ⟨by omega, Or.inr ⟨by omega, by omega⟩⟩
            · rintro ⟨z1, z2 | ⟨z2, z3⟩⟩
              · exact Or.inl ⟨z1, z2⟩
              · exact Or.inr (by omega)
          · rw [r58, upd_at, if_neg (by omega)]
      exact hq _ key
  · exact h.elim
theorem ha_X8_reaches : ∀ As w P, T_X8_reaches As w P → qq_wd As ≤ 5 := by
  intro As w P h
  unfold T_X8_reaches at h
  split at h
  · exact Nat.le_of_ble_eq_true rfl
  · exact h.elim
theorem hv_X8_reaches : ∀ As w P, T_X8_reaches As w P → ∃ (k : Nat) (r : List Value) (fs : List Nat), As = .ref k :: r ∧ ww_sh[k]? = some (.inr (8, fs)) := by
  intro As w P h
  unfold T_X8_reaches at h
  split at h
  · exact ⟨_, _, _, rfl, rfl⟩
  · exact h.elim
set_option maxRecDepth 100000 in
theorem M_X8_reaches (l : Launch) : qq_M l ww_T ww_N vwCl ww_sh ww_ro ww_zs yX8_reaches cX8_reaches 5 none (ww_rm 0) T_X8_reaches := by
  refine qq_mk (host := RX7) (is := ki_X8_reaches) (cs := cs_X8_reaches) (by decide) ww_k1 wl_X8 ww_so ww_so2 kc_X8_reaches kv_X8_reaches kg_X8_reaches ?_ ha_X8_reaches bd_X8_reaches
  intro k i q hi hq
  simp [cs_X8_reaches] at hq
abbrev cs_X8_reachAll : List (Nat × qq_t) := [(4, T_X8_reaches)]
def T_X8_reachAll : qq_t := fun As w P => match As with
  | [.ref 8, .int b, .int a, .int x] => ((vp_in a 64 ∧ vp_in b 13) ∧ ∃ f, mW w f) ∧ ∀ w', mAdd w w' (fun j e => j = 13 * qn a + qn b ∧ e < 13 ∧ bt x e = true) → P none w'
  | _ => False
theorem lp_reachAll {P : Option Value → qq_w → Prop} {K : Nat → qq_L → List Value → qq_w → Prop} (S : qq_Sat ww_sh ww_ro cs_X8_reachAll (qq_at 35 kd_X8_reachAll) none P K) {w : qq_w} {a b x : Int32} {k : Nat} (ha : vp_in a 64) (hb : vp_in b 13) (hk : k = 13 * qn a + qn b) (hf : ∃ f, mW w f) (hq : ∀ w', mAdd w w' (fun j e => j = k ∧ e < 13 ∧ bt x e = true) → P none w') :
    ∀ m i, i + m = 13 → ∀ (x4 : Int32) (w1 : qq_w), x4 = nI i → mAdd w w1 (fun j e => j = k ∧ e < i ∧ bt x e = true) → K 3 [(0, .ref 8), (1, .int b), (2, .int a), (3, .int x), (4, .int x4)] [] w1 := by
  intro m
  induction m with
  | zero =>
    intro i hi x4 w1 e4 h1
    have : i = 13 := by omega
    subst this
    refine qq_go_ok S (fun pc => Nat.beq pc 3) 60 ?_
    conv => whnf
    refine br_t (i_ge 13 e4 (by omega) (by omega)) ?_
    conv => whnf
    exact hq _ h1
  | succ m ih =>
    intro i hi x4 w1 e4 h1
    refine qq_go_ok S (fun pc => Nat.beq pc 3) 60 ?_
    conv => whnf
    refine br_f (i_nge 13 e4 (by omega) (by omega)) ?_
    conv => whnf
    have hb' : (x >>> (x4 &&& 31)) &&& 1 = 1 ↔ bt x i = true := by rw [e4]; exact b_has1 (by omega) _
    have q4 : qn x4 = i := by rw [e4]; exact qn_nI (by omega)
    refine ⟨fun h => ?_, fun h => ?_⟩
    · have h : ¬ bt x i = true := fun z => h (hb'.mpr z)
      conv => whnf
      refine qq_wk S (ih (i + 1) (by omega) _ _ (i_s e4) ⟨h1.1, fun j e => ?_⟩) ⟨rfl, rfl, rfl, rfl, rfl, trivial⟩
      rw [h1.2 j e]
      refine or_congr Iff.rfl ⟨?_, ?_⟩
      · rintro ⟨z1, z2, z3⟩; exact ⟨z1, by omega, z3⟩
      · rintro ⟨z1, z2, z3⟩
        refine ⟨z1, ?_, z3⟩
        rcases Nat.lt_or_ge e i with z | z
        · exact z
        · have : e = i := by omega
          subst this
          exact absurd z3 h
    · have h := hb'.mp h
      conv => whnf
      refine ⟨⟨⟨ha, hb, i_in 13 e4 (by omega) (by decide)⟩, mExt_W h1.1 hf⟩, fun w2 h2 => ?_⟩
      conv => whnf
      refine qq_wk S (ih (i + 1) (by omega) _ w2 (i_s e4) ⟨mExt_tr h1.1 h2.1, fun j e => ?_⟩) ⟨rfl, rfl, rfl, rfl, rfl, trivial⟩
      have z := h2.2 j e
      dsimp only at z
      rw [← hk, q4] at z
      rw [z, h1.2 j e]
      constructor
      · rintro ((z | ⟨z1, z2, z3⟩) | ⟨z1, z2⟩)
        · exact Or.inl z
        · exact Or.inr ⟨z1, by omega, z3⟩
        · subst z2; exact Or.inr ⟨z1, by omega, h⟩
      · rintro (z | ⟨z1, z2, z3⟩)
        · exact Or.inl (Or.inl z)
        · by_cases q : e = i
          · exact Or.inr ⟨z1, q⟩
          · exact Or.inl (Or.inr ⟨z1, by omega, z3⟩)
set_option maxHeartbeats 4000000 in
set_option maxRecDepth 100000 in
theorem bd_X8_reachAll : ∀ As w P K, qq_Sat ww_sh ww_ro cs_X8_reachAll (qq_at 35 kd_X8_reachAll) none P K → T_X8_reachAll As w P → K 0 (lv_args 0 As) [] w := by
  intro As w P K S h
  unfold T_X8_reachAll at h
  split at h
  · rename_i b a x
    obtain ⟨⟨⟨hp, hp2⟩, hf⟩, hq⟩ := h
    refine qq_go_ok S (fun pc => Nat.beq pc 3) 60 ?_
    conv => whnf
    refine qq_wk S (lp_reachAll S hp hp2 rfl hf hq 13 0 rfl _ _ rfl ⟨mExt_rf, fun j e => ?_⟩) ⟨rfl, rfl, rfl, rfl, rfl, trivial⟩
    constructor
    · exact Or.inl
    · rintro (z | ⟨-, z, -⟩)
      · exact z
      · omega
  · exact h.elim
theorem ha_X8_reachAll : ∀ As w P, T_X8_reachAll As w P → qq_wd As ≤ 5 := by
  intro As w P h
  unfold T_X8_reachAll at h
  split at h
  · exact Nat.le_of_ble_eq_true rfl
  · exact h.elim
theorem hv_X8_reachAll : ∀ As w P, T_X8_reachAll As w P → ∃ (k : Nat) (r : List Value) (fs : List Nat), As = .ref k :: r ∧ ww_sh[k]? = some (.inr (8, fs)) := by
  intro As w P h
  unfold T_X8_reachAll at h
  split at h
  · exact ⟨_, _, _, rfl, rfl⟩
  · exact h.elim
set_option maxRecDepth 100000 in
theorem M_X8_reachAll (l : Launch) : qq_M l ww_T ww_N vwCl ww_sh ww_ro ww_zs yX8_reachAll cX8_reachAll 5 none (ww_rm 1) T_X8_reachAll := by
  refine qq_mk (host := RX7) (is := ki_X8_reachAll) (cs := cs_X8_reachAll) (by decide) ww_k1 wl_X8 ww_so ww_so2 kc_X8_reachAll kv_X8_reachAll kg_X8_reachAll ?_ ha_X8_reachAll bd_X8_reachAll
  intro k i q hi hq
  match k, hi, hq with
  | 0, hi, hq => cases hi; cases hq; exact fun p e s m args below meth c D tys tC ad Q pc X hdg => qq_cV (ci := 8) X ww_gd (M_X8_reaches l) kf_X8_reaches.1 (Or.inl (ww_a5 (i := 226) (w := Cond.methodLink RX8 194 yX8_reaches) rfl rfl)) kf_X8_reaches.2.1 kf_X8_reaches.2.2.1 kf_X8_reaches.2.2.2 ⟨by decide, by decide, by decide +kernel⟩ rfl rfl rfl ⟨by decide, by decide⟩ ⟨Nat.le_refl _, Nat.le_refl _⟩ hv_X8_reaches hdg
  | n + 1, hi, hq => simp [cs_X8_reachAll] at hq
