theorem nI_st {a b f : Int32} {n p i : Nat} (ha : a = nI n) (hb : b = nI p) (hf : f = nI i) : (a * 3 + b) * 13 + f = nI (39 * n + 13 * p + i) := by
  have e : (a * 3 + b) * nI 13 + f = nI (39 * n + 13 * p + i) := by
    rw [nI_ml ha hb (nI_lit 3), hf, pk_mul, nI_add]
    congr 1
    omega
  exact e
/-- path edges found so far, by their codes 13 (13 n + d) + e; the list of them -/
def cR (w : qq_w) (c : Nat) : Prop := c < 10816 ∧ bt (w.1 20 (c / 13)) (c % 13) = true
def cW (w : qq_w) (f : Nat) : Prop := w.1 3 5 = nI f ∧ WL (w.1 21) f (cR w)
/-- the solving has gone on: more is found, what was found stands where it stood -/
def sExt (w w' : qq_w) : Prop := qq_only [3, 20, 21] w w' ∧ (∀ j, j ≠ 5 → w'.1 3 j = w.1 3 j) ∧ ∀ f, cW w f → ∃ f', f ≤ f' ∧ cW w' f' ∧ ∀ i, i < f → w'.1 21 i = w.1 21 i
theorem sExt_rf {w : qq_w} : sExt w w := ⟨qq_only_rf, fun _ _ => rfl, fun f h => ⟨f, Nat.le_refl f, h, fun _ _ => rfl⟩⟩
theorem sExt_tr {w w1 w2 : qq_w} (h : sExt w w1) (h2 : sExt w1 w2) : sExt w w2 := by
  refine ⟨qq_only_tr h.1 h2.1, fun j hj => (h2.2.1 j hj).trans (h.2.1 j hj), fun f hf => ?_⟩
  obtain ⟨f1, a1, a2, a3⟩ := h.2.2 f hf
  obtain ⟨f2, b1, b2, b3⟩ := h2.2.2 f1 a2
  exact ⟨f2, by omega, b2, fun i hi => (b3 i (by omega)).trans (a3 i hi)⟩
theorem sExt_W {w w1 : qq_w} (h : sExt w w1) (hf : ∃ f, cW w f) : ∃ f, cW w1 f := by
  obtain ⟨f, hf⟩ := hf
  obtain ⟨f1, -, a2, -⟩ := h.2.2 f hf
  exact ⟨f1, a2⟩
/-- facts that a row of 'reach' gains -/
def sAdd (w w' : qq_w) (N : Nat → Nat → Prop) : Prop := sExt w w' ∧ ∀ j e, bt (w'.1 20 j) e = true ↔ bt (w.1 20 j) e = true ∨ N j e
abbrev cs_X5_enteringBy : List (Nat × qq_t) := [(4, T_X5_step), (2, T_X7_has)]
def T_X5_enteringBy : qq_t := fun As w P => match As with
  | [.ref 3, .int a, .int b] => (vp_in a 64 ∧ vp_in b 13) ∧ ∀ x, (∀ e, bt x e = true ↔ e < 13 ∧ bt (w.1 19 (39 * qn a + 13 * 1 + e)) (qn b) = true) → P (some (.int x)) w
  | _ => False
theorem lp_enteringBy {P : Option Value → qq_w → Prop} {K : Nat → qq_L → List Value → qq_w → Prop} (S : qq_Sat ww_sh ww_ro cs_X5_enteringBy (qq_at 42 kd_X5_enteringBy) (some .int) P K) {w : qq_w} {a b : Int32} {n c : Nat} (ha : a = nI n) (hn : n < 64) (hb : b = nI c) (hc : c < 13)
    (hq : ∀ x, (∀ e, bt x e = true ↔ e < 13 ∧ bt (w.1 19 (39 * n + 13 * 1 + e)) c = true) → P (some (.int x)) w) :
    ∀ m i, i + m = 13 → ∀ x3 x4 : Int32, x4 = nI i → (∀ e, bt x3 e = true ↔ e < i ∧ bt (w.1 19 (39 * n + 13 * 1 + e)) c = true) → K 5 [(0, .ref 3), (1, .int a), (2, .int b), (3, .int x3), (4, .int x4)] [] w := by
  intro m
  induction m with
  | zero =>
    intro i hi x3 x4 e4 h3
    refine qq_go_ok S (fun pc => Nat.beq pc 5) 60 ?_
    conv => whnf
    refine br_t (i_ge 13 e4 (by omega) (by omega)) ?_
    conv => whnf
    exact hq _ (by have : i = 13 := by omega
                   subst this; exact h3)
  | succ m ih =>
    intro i hi x3 x4 e4 h3
    refine qq_go_ok S (fun pc => Nat.beq pc 5) 60 ?_
    conv => whnf
    refine br_f (i_nge 13 e4 (by omega) (by omega)) ?_
    conv => whnf
    have e := nI_st ha (b := 1) (p := 1) rfl e4
    refine ⟨i_in 2496 e (by omega) (by decide), ?_⟩
    conv => whnf
    have ee : w.1 19 ((a * 3 + 1) * 13 + x4).toNatClampNeg = w.1 19 (39 * n + 13 * 1 + i) := by rw [i_c e (by omega)]
    have hb' : ((w.1 19 ((a * 3 + 1) * 13 + x4).toNatClampNeg) >>> (b &&& 31)) &&& 1 = 0 ↔ bt (w.1 19 (39 * n + 13 * 1 + i)) c = false := by rw [ee, hb]; exact b_has (by omega) _
    refine ⟨fun h => ?_, fun h => ?_⟩
    · conv => whnf
      refine br_t rfl ?_
      conv => whnf
      refine qq_wk S (ih (i + 1) (by omega) _ _ (i_s e4) (fun e => ?_)) ⟨rfl, rfl, rfl, rfl, rfl, trivial⟩
      have h := hb'.mp h
      rw [h3 e]
      constructor
      · rintro ⟨h1, h2⟩; exact ⟨by omega, h2⟩
      · rintro ⟨h1, h2⟩
        by_cases z : e = i
        · subst z; rw [h] at h2; cases h2
        · exact ⟨by omega, h2⟩
    · conv => whnf
      refine br_f (by decide) ?_
      conv => whnf
      refine qq_wk S (ih (i + 1) (by omega) _ _ (i_s e4) (fun e => ?_)) ⟨rfl, rfl, rfl, rfl, rfl, trivial⟩
      have h : bt (w.1 19 (39 * n + 13 * 1 + i)) c = true := by
        cases z : bt (w.1 19 (39 * n + 13 * 1 + i)) c with
        | true => rfl
        | false => exact absurd (hb'.mpr z) h
      rw [b_or, Bool.or_eq_true, h3 e, e4, b_one (by omega), decide_eq_true_eq]
      constructor
      · rintro (⟨h1, h2⟩ | rfl)
        · exact ⟨by omega, h2⟩
        · exact ⟨by omega, h⟩
      · rintro ⟨h1, h2⟩
        by_cases z : e = i
        · exact Or.inr z
        · exact Or.inl ⟨by omega, h2⟩
set_option maxHeartbeats 4000000 in
set_option maxRecDepth 100000 in
theorem bd_X5_enteringBy : ∀ As w P K, qq_Sat ww_sh ww_ro cs_X5_enteringBy (qq_at 42 kd_X5_enteringBy) (some .int) P K → T_X5_enteringBy As w P → K 0 (lv_args 0 As) [] w := by
  intro As w P K S h
  unfold T_X5_enteringBy at h
  split at h
  · rename_i a b
    obtain ⟨⟨hp, hp2⟩, hq⟩ := h
    obtain ⟨ea, ha⟩ := qn_eq hp (by decide)
    obtain ⟨eb, hb⟩ := qn_eq hp2 (by decide)
    refine qq_go_ok S (fun pc => Nat.beq pc 5) 60 ?_
    conv => whnf
    refine qq_wk S (lp_enteringBy S ea ha eb hb hq 13 0 rfl _ _ rfl (fun e => ?_)) ⟨rfl, rfl, rfl, rfl, rfl, trivial⟩
    rw [b_0]
    constructor
    · intro z; cases z
    · rintro ⟨z, -⟩; omega
  · exact h.elim
theorem ha_X5_enteringBy : ∀ As w P, T_X5_enteringBy As w P → qq_wd As ≤ 5 := by
  intro As w P h
  unfold T_X5_enteringBy at h
  split at h
  · exact Nat.le_of_ble_eq_true rfl
  · exact h.elim
theorem hv_X5_enteringBy : ∀ As w P, T_X5_enteringBy As w P → ∃ (k : Nat) (r : List Value) (fs : List Nat), As = .ref k :: r ∧ ww_sh[k]? = some (.inr (5, fs)) := by
  intro As w P h
  unfold T_X5_enteringBy at h
  split at h
  · exact ⟨_, _, _, rfl, rfl⟩
  · exact h.elim
set_option maxRecDepth 100000 in
theorem M_X5_enteringBy (l : Launch) : qq_M l ww_T ww_N vwCl ww_sh ww_ro ww_zs yX5_enteringBy cX5_enteringBy 5 (some .int) (ww_rm 1) T_X5_enteringBy := by
  refine qq_mk (host := RX7) (is := ki_X5_enteringBy) (cs := cs_X5_enteringBy) (by decide) ww_k1 wl_X5 ww_so ww_so2 kc_X5_enteringBy kv_X5_enteringBy kg_X5_enteringBy ?_ ha_X5_enteringBy bd_X5_enteringBy
  intro k i q hi hq
  match k, hi, hq with
  | 0, hi, hq => cases hi; cases hq; exact fun p e s m args below meth c D tys tC ad Q pc X hdg => qq_cV (ci := 5) X ww_gd (M_X5_step l) kf_X5_step.1 (Or.inl (ww_a3 (i := 82) (w := Cond.methodLink RX5 104 yX5_step) rfl rfl)) kf_X5_step.2.1 kf_X5_step.2.2.1 kf_X5_step.2.2.2 ⟨by decide, by decide, by decide +kernel⟩ rfl rfl rfl ⟨by decide, by decide⟩ ⟨Nat.le_refl _, Nat.le_refl _⟩ hv_X5_step hdg
  | 1, hi, hq => cases hi; cases hq; exact fun p e s m args below meth c D tys tC ad Q pc X hdg => qq_cS X ww_gd (M_X7_has l) kf_X7_has.1 (Or.inr ⟨RX7, ww_n3 (i := 61) (w := Cond.methodLinkNest RX5 82 yX7_has RX7) rfl rfl⟩) kf_X7_has.2.1 kf_X7_has.2.2 ⟨by decide, by decide, by decide +kernel⟩ rfl rfl ⟨by decide, by decide⟩ ⟨Nat.le_refl _, Nat.le_refl _⟩ hdg
  | n + 2, hi, hq => simp [cs_X5_enteringBy] at hq
abbrev cs_X5_add : List (Nat × qq_t) := [(3, T_X5_reached), (2, T_X7_has)]
def T_X5_add : qq_t := fun As w P => match As with
  | [.ref 3, .int a, .int b, .int x] => ((vp_in a 64 ∧ vp_in b 13 ∧ fs x) ∧ ∃ f, cW w f) ∧ ∀ w', sAdd w w' (fun j e => j = 13 * qn a + qn b ∧ bt x e = true) → P none w'
  | _ => False
theorem lp_add {P : Option Value → qq_w → Prop} {K : Nat → qq_L → List Value → qq_w → Prop} (S : qq_Sat ww_sh ww_ro cs_X5_add (qq_at 101 kd_X5_add) none P K) {w : qq_w} {a b x y : Int32} {n d k f : Nat} (ha : a = nI n) (hn : n < 64) (hb : b = nI d) (hd : d < 13) (hk : k = 13 * n + d) (hx : fs x) (hy : ∀ e, bt y e = true ↔ bt x e = true ∧ ¬ bt (w.1 20 k) e = true) (hf : cW w f)
    (hq : ∀ w', sAdd w w' (fun j e => j = k ∧ bt x e = true) → P none w') :
    ∀ m i, i + m = 13 → ∀ (x5 : Int32) (w1 : qq_w) (f1 : Nat), x5 = nI i → qq_only [3, 20, 21] w w1 → w1.1 3 = upd (w.1 3) 5 (nI f1) → w1.1 20 = upd (w.1 20) k (w.1 20 k ||| y) → f ≤ f1 → (∀ i, i < f → w1.1 21 i = w.1 21 i) → WL (w1.1 21) f1 (fun c => cR w c ∨ (c / 13 = k ∧ c % 13 < i ∧ bt y (c % 13) = true)) → K 31 [(0, .ref 3), (1, .int a), (2, .int b), (4, .int y), (5, .int x5)] [] w1 := by
  have fin : ∀ (w1 : qq_w) (f1 i : Nat), (∀ e, i ≤ e → ¬ bt y e = true) → qq_only [3, 20, 21] w w1 → w1.1 3 = upd (w.1 3) 5 (nI f1) → w1.1 20 = upd (w.1 20) k (w.1 20 k ||| y) → f ≤ f1 → (∀ i, i < f → w1.1 21 i = w.1 21 i) → WL (w1.1 21) f1 (fun c => cR w c ∨ (c / 13 = k ∧ c % 13 < i ∧ bt y (c % 13) = true)) → P none w1 := by
    intro w1 f1 i hi h1 h2 h3 h4 h5 h6
    have hrow : ∀ j e, bt (w1.1 20 j) e = true ↔ bt (w.1 20 j) e = true ∨ (j = k ∧ bt x e = true) := by
      intro j e
      rw [h3, upd_at]
      by_cases hj : j = k
      · subst hj
        rw [if_pos rfl, b_or, Bool.or_eq_true, hy e]
        constructor
        · rintro (z | ⟨z, -⟩)
          · exact Or.inl z
          · exact Or.inr ⟨rfl, z⟩
        · rintro (z | ⟨-, z⟩)
          · exact Or.inl z
          · by_cases q : bt (w.1 20 j) e = true
            · exact Or.inl q
            · exact Or.inr ⟨z, q⟩
      · rw [if_neg hj]
        constructor
        · exact Or.inl
        · rintro (z | ⟨z, -⟩)
          · exact z
          · exact absurd z hj
    refine hq w1 ⟨⟨h1, fun j hj => by rw [h2, upd_at, if_neg hj], fun g hg => ?_⟩, hrow⟩
    have e0 : nI g = nI f := hg.1.symm.trans hf.1
    have hg1 := WL_le hg.2
    have hf1 := WL_le hf.2
    have : g = f := (nI_eq (by omega) (by omega)).mp e0
    subst this
    refine ⟨f1, h4, ⟨by rw [h2, upd_at, if_pos rfl], WL_iff h6 fun c => ?_⟩, h5⟩
    unfold cR
    rw [hrow]
    constructor
    · rintro (⟨z1, z2⟩ | ⟨z1, z2, z3⟩)
      · exact ⟨z1, Or.inl z2⟩
      · have hc := h6.1 c (Or.inr ⟨z1, z2, z3⟩)
        exact ⟨hc, Or.inr ⟨z1, ((hy _).mp z3).1⟩⟩
    · rintro ⟨z1, z2 | ⟨z2, z3⟩⟩
      · exact Or.inl ⟨z1, z2⟩
      · by_cases q : bt (w.1 20 k) (c % 13) = true
        · exact Or.inl ⟨z1, by rw [z2]; exact q⟩
        · have hyc := (hy _).mpr ⟨z3, q⟩
          have : c % 13 < i := by
            rcases Nat.lt_or_ge (c % 13) i with z | z
            · exact z
            · exact absurd hyc (hi _ z)
          exact Or.inr ⟨z2, this, hyc⟩
  have hys : fs y := fun e he => by
    cases z : bt y e with
    | false => rfl
    | true =>
      have := ((hy e).mp z).1
      rw [hx e he] at this
      cases this
  intro m
  induction m with
  | zero =>
    intro i hi x5 w1 f1 e5 h1 h2 h3 h4 h5 h6
    refine qq_go_ok S (fun pc => Nat.beq pc 31) 60 ?_
    conv => whnf
    refine br_t (i_ge 13 e5 (by omega) (by omega)) ?_
    conv => whnf
    exact fin w1 f1 i (fun e he => by rw [hys e (by omega)]; decide) h1 h2 h3 h4 h5 h6
  | succ m ih =>
    intro i hi x5 w1 f1 e5 h1 h2 h3 h4 h5 h6
    refine qq_go_ok S (fun pc => Nat.beq pc 31) 80 ?_
    conv => whnf
    refine br_f (i_nge 13 e5 (by omega) (by omega)) ?_
    conv => whnf
    refine ⟨fun h => ?_, fun _ => ?_⟩
    · conv => whnf
      exact fin w1 f1 i (fun e he => by rw [h, b_0]; decide) h1 h2 h3 h4 h5 h6
    conv => whnf
    have hb' : (y >>> (x5 &&& 31)) &&& 1 = 0 ↔ bt y i = false := by rw [e5]; exact b_has (by omega) _
    refine ⟨fun h => ?_, fun h => ?_⟩
    · conv => whnf
      refine br_t rfl ?_
      conv => whnf
      refine qq_wk S (ih (i + 1) (by omega) _ _ f1 (i_s e5) h1 h2 h3 h4 h5 (WL_iff h6 fun c => ?_)) ⟨rfl, rfl, rfl, rfl, rfl, trivial⟩
      have h := hb'.mp h
      constructor
      · rintro (z | ⟨z1, z2, z3⟩)
        · exact Or.inl z
        · exact Or.inr ⟨z1, by omega, z3⟩
      · rintro (z | ⟨z1, z2, z3⟩)
        · exact Or.inl z
        · refine Or.inr ⟨z1, ?_, z3⟩
          rcases Nat.lt_or_ge (c % 13) i with z | z
          · exact z
          · have : c % 13 = i := by omega
            rw [this, h] at z3
            cases z3
    · have h : bt y i = true := by
        cases z : bt y i with
        | true => rfl
        | false => exact absurd (hb'.mpr z) h
      have hnew : ¬ (cR w (13 * k + i) ∨ ((13 * k + i) / 13 = k ∧ (13 * k + i) % 13 < i ∧ bt y ((13 * k + i) % 13) = true)) := by
        have q1 : (13 * k + i) / 13 = k := by omega
        have q2 : (13 * k + i) % 13 = i := by omega
        rintro (⟨-, z⟩ | ⟨-, z, -⟩)
        · rw [q1, q2] at z
          exact ((hy i).mp h).2 z
        · omega
      have hlt := WL_lt h6 (c := 13 * k + i) (by omega) hnew
      have e35 : w1.1 3 5 = nI f1 := by rw [h2, upd_at, if_pos rfl]
      conv => whnf
      refine br_f (by decide) ?_
      conv => whnf
      refine br_f (i_nge 10816 e35 (by omega) (by decide)) ?_
      conv => whnf
      refine ⟨i_in 10816 e35 (by omega) (by decide), ?_⟩
      conv => whnf
      have ecode : (a * 13 + b) * 13 + x5 = nI (13 * k + i) := by
        have := nI_ml (nI_ml ha hb (nI_lit 13)) e5 (nI_lit 13)
        rw [← hk] at this
        exact this
      refine qq_wk S (ih (i + 1) (by omega) _ _ (f1 + 1) (i_s e5) (qq_only_ui (qq_only_ui h1 (by simp)) (by simp)) ?_ h3 (by omega) (fun j hj => ?_) ?_) ⟨rfl, rfl, rfl, rfl, rfl, trivial⟩
      · show upd (w1.1 3) 5 (w1.1 3 5 + 1) = _
        rw [i_s e35, h2]
        funext q
        rw [upd_at, upd_at, upd_at]
        split <;> rfl
      · show upd (w1.1 21) (w1.1 3 5).toNatClampNeg _ j = _
        rw [i_c e35 (by omega), upd_at, if_neg (by omega)]
        exact h5 j hj
      · show WL (upd (w1.1 21) (w1.1 3 5).toNatClampNeg ((a * 13 + b) * 13 + x5)) (f1 + 1) _
        rw [i_c e35 (by omega), ecode]
        refine WL_iff (WL_add h6 (by omega) hnew) fun c => ?_
        constructor
        · rintro ((z | ⟨z1, z2, z3⟩) | z)
          · exact Or.inl z
          · exact Or.inr ⟨z1, by omega, z3⟩
          · have q1 : c / 13 = k := by omega
            have q2 : c % 13 = i := by omega
            exact Or.inr ⟨q1, by omega, by rw [q2]; exact h⟩
        · rintro (z | ⟨z1, z2, z3⟩)
          · exact Or.inl (Or.inl z)
          · by_cases q : c % 13 = i
            · exact Or.inr (by omega)
            · exact Or.inl (Or.inr ⟨z1, by omega, z3⟩)
set_option maxHeartbeats 4000000 in
set_option maxRecDepth 100000 in
theorem bd_X5_add : ∀ As w P K, qq_Sat ww_sh ww_ro cs_X5_add (qq_at 101 kd_X5_add) none P K → T_X5_add As w P → K 0 (lv_args 0 As) [] w := by
  intro As w P K S h
  unfold T_X5_add at h
  split at h
  · rename_i a b x
    obtain ⟨⟨⟨hp, hp2, hp3⟩, f, hf⟩, hq⟩ := h
    obtain ⟨ea, ha⟩ := qn_eq hp (by decide)
    obtain ⟨eb, hb⟩ := qn_eq hp2 (by decide)
    have ek := nI_ml ea eb (nI_lit 13)
    refine qq_go_ok S (fun pc => Nat.beq pc 31) 60 ?_
    conv => whnf
    refine ⟨i_in 832 ek (by omega) (by decide), ?_⟩
    conv => whnf
    refine ⟨i_in 832 ek (by omega) (by decide), ?_⟩
    conv => whnf
    refine ⟨i_in 832 ek (by omega) (by decide), ?_⟩
    conv => whnf
    have ec := i_c ek (by omega)
    refine qq_wk S (lp_add S ea ha eb hb rfl hp3 (y := x &&& (w.1 20 (13 * qn a + qn b) ^^^ (-1))) (fun e => ?_) hf hq 13 0 rfl _ _ f rfl (qq_only_ui qq_only_rf (by simp)) ?_ ?_ (Nat.le_refl f) (fun _ _ => rfl) (WL_iff hf.2 fun c => ?_)) ⟨rfl, rfl, rfl, ?_, rfl, trivial⟩
    · rcases Nat.lt_or_ge e 32 with z | z
      · rw [b_not _ _ z, Bool.and_eq_true]
        simp
      · rw [b_big z, hp3 e (by omega)]
        simp
    · show w.1 3 = _
      funext q
      rw [upd_at]
      split
      · rename_i h; rw [h]; exact hf.1
      · rfl
    · show upd (w.1 20) (a * 13 + b).toNatClampNeg (w.1 20 (a * 13 + b).toNatClampNeg ||| (x &&& (w.1 20 (a * 13 + b).toNatClampNeg ^^^ (-1)))) = _
      rw [ec]
    · constructor
      · exact Or.inl
      · rintro (z | ⟨-, z, -⟩)
        · exact z
        · omega
    · show some (Value.int (x &&& (w.1 20 (a * 13 + b).toNatClampNeg ^^^ (-1)))) = _
      rw [ec]
  · exact h.elim
theorem ha_X5_add : ∀ As w P, T_X5_add As w P → qq_wd As ≤ 6 := by
  intro As w P h
  unfold T_X5_add at h
  split at h
  · exact Nat.le_of_ble_eq_true rfl
  · exact h.elim
theorem hv_X5_add : ∀ As w P, T_X5_add As w P → ∃ (k : Nat) (r : List Value) (fs : List Nat), As = .ref k :: r ∧ ww_sh[k]? = some (.inr (5, fs)) := by
  intro As w P h
  unfold T_X5_add at h
  split at h
  · exact ⟨_, _, _, rfl, rfl⟩
  · exact h.elim
set_option maxRecDepth 100000 in
theorem M_X5_add (l : Launch) : qq_M l ww_T ww_N vwCl ww_sh ww_ro ww_zs yX5_add cX5_add 6 none (ww_rm 1) T_X5_add := by
  refine qq_mk (host := RX7) (is := ki_X5_add) (cs := cs_X5_add) (by decide) ww_k1 wl_X5 ww_so ww_so2 kc_X5_add kv_X5_add kg_X5_add ?_ ha_X5_add bd_X5_add
  intro k i q hi hq
  match k, hi, hq with
  | 0, hi, hq => cases hi; cases hq; exact fun p e s m args below meth c D tys tC ad Q pc X hdg => qq_cV (ci := 5) X ww_gd (M_X5_reached l) kf_X5_reached.1 (Or.inl (ww_a3 (i := 68) (w := Cond.methodLink RX5 92 yX5_reached) rfl rfl)) kf_X5_reached.2.1 kf_X5_reached.2.2.1 kf_X5_reached.2.2.2 ⟨by decide, by decide, by decide +kernel⟩ rfl rfl rfl ⟨by decide, by decide⟩ ⟨Nat.le_refl _, Nat.le_refl _⟩ hv_X5_reached hdg
  | 1, hi, hq => cases hi; cases hq; exact fun p e s m args below meth c D tys tC ad Q pc X hdg => qq_cS X ww_gd (M_X7_has l) kf_X7_has.1 (Or.inr ⟨RX7, ww_n3 (i := 61) (w := Cond.methodLinkNest RX5 82 yX7_has RX7) rfl rfl⟩) kf_X7_has.2.1 kf_X7_has.2.2 ⟨by decide, by decide, by decide +kernel⟩ rfl rfl ⟨by decide, by decide⟩ ⟨Nat.le_refl _, Nat.le_refl _⟩ hdg
  | n + 2, hi, hq => simp [cs_X5_add] at hq
