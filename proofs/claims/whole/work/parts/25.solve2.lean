theorem bt_not {x : Int32} {i : Nat} (h : ¬ bt x i = false) : bt x i = true := by
  cases z : bt x i with
  | true => rfl
  | false => exact absurd z h
/-- the LEAVE of a CALL's procedure; what comes back through it -/
def cLeave (w : qq_w) (c : Nat) : Nat := qn (w.1 12 (qn (w.1 13 (10 * c + 5)))) + 1
def cThr (w : qq_w) (c f g : Nat) : Prop := ∃ d e, d < 13 ∧ e < 13 ∧ bt (w.1 19 (39 * c + 13 * 1 + f)) d = true ∧ bt (w.1 20 (13 * cLeave w c + d)) e = true ∧ bt (w.1 19 (39 * c + 13 * 2 + e)) g = true
abbrev cs_X5_through : List (Nat × qq_t) := [(3, T_X3_of), (2, T_X3_leaveOf), (4, T_X5_step), (2, T_X7_has), (3, T_X5_reached)]
def T_X5_through : qq_t := fun As w P => match As with
  | [.ref 3, .int a, .int b] => (vp_in a 64 ∧ vp_in b 13 ∧ vp_in (w.1 13 (10 * qn a + 5)) 8 ∧ vp_in (w.1 12 (qn (w.1 13 (10 * qn a + 5)))) 63) ∧ ∀ x, (∀ g, bt x g = true ↔ cThr w (qn a) (qn b) g) → P (some (.int x)) w
  | _ => False
theorem lp_through2 {P : Option Value → qq_w → Prop} {K : Nat → qq_L → List Value → qq_w → Prop} (S : qq_Sat ww_sh ww_ro cs_X5_through (qq_at 112 kd_X5_through) (some .int) P K) {w : qq_w} {a x5 : Int32} {n : Nat} (ha : a = nI n) (hn : n < 64)
    (hq : ∀ x, (∀ g, bt x g = true ↔ ∃ e, e < 13 ∧ bt x5 e = true ∧ bt (w.1 19 (39 * n + 13 * 2 + e)) g = true) → P (some (.int x)) w) :
    ∀ m i, i + m = 13 → ∀ x6 x7 : Int32, x7 = nI i → (∀ g, bt x6 g = true ↔ ∃ e, e < i ∧ bt x5 e = true ∧ bt (w.1 19 (39 * n + 13 * 2 + e)) g = true) → K 73 [(0, .ref 3), (1, .int a), (5, .int x5), (6, .int x6), (7, .int x7)] [] w := by
  intro m
  induction m with
  | zero =>
    intro i hi x6 x7 e7 h6
    have : i = 13 := by omega
    subst this
    refine qq_go_ok S (fun pc => Nat.beq pc 73) 60 ?_
    conv => whnf
    refine br_t (i_ge 13 e7 (by omega) (by omega)) ?_
    conv => whnf
    exact hq _ h6
  | succ m ih =>
    intro i hi x6 x7 e7 h6
    refine qq_go_ok S (fun pc => Nat.beq pc 73) 60 ?_
    conv => whnf
    refine br_f (i_nge 13 e7 (by omega) (by omega)) ?_
    conv => whnf
    have hb' : (x5 >>> (x7 &&& 31)) &&& 1 = 0 ↔ bt x5 i = false := by rw [e7]; exact b_has (by omega) _
    refine ⟨fun h => ?_, fun h => ?_⟩
    · conv => whnf
      refine br_t rfl ?_
      conv => whnf
      refine qq_wk S (ih (i + 1) (by omega) _ _ (i_s e7) (fun g => ?_)) ⟨rfl, rfl, rfl, rfl, rfl, trivial⟩
      have h := hb'.mp h
      rw [h6 g]
      constructor
      · rintro ⟨e, h1, h2⟩; exact ⟨e, by omega, h2⟩
      · rintro ⟨e, h1, h2, h3⟩
        by_cases z : e = i
        · subst z; rw [h] at h2; cases h2
        · exact ⟨e, by omega, h2, h3⟩
    · have h := bt_not (fun z => h (hb'.mpr z))
      conv => whnf
      refine br_f (by decide) ?_
      conv => whnf
      have e := nI_st ha (b := 2) (p := 2) rfl e7
      refine ⟨i_in 2496 e (by omega) (by decide), ?_⟩
      conv => whnf
      refine qq_wk S (ih (i + 1) (by omega) _ _ (i_s e7) (fun g => ?_)) ⟨rfl, rfl, rfl, rfl, rfl, trivial⟩
      rw [b_or, Bool.or_eq_true, h6 g]
      show _ ∨ bt (w.1 19 ((a * 3 + 2) * 13 + x7).toNatClampNeg) g = true ↔ _
      rw [i_c e (by omega)]
      constructor
      · rintro (⟨e, h1, h2⟩ | z)
        · exact ⟨e, by omega, h2⟩
        · exact ⟨i, by omega, h, z⟩
      · rintro ⟨e, h1, h2, h3⟩
        by_cases z : e = i
        · subst z; exact Or.inr h3
        · exact Or.inl ⟨e, by omega, h2, h3⟩
theorem lp_through1 {P : Option Value → qq_w → Prop} {K : Nat → qq_L → List Value → qq_w → Prop} (S : qq_Sat ww_sh ww_ro cs_X5_through (qq_at 112 kd_X5_through) (some .int) P K) {w : qq_w} {a b x3 x4 : Int32} {n l : Nat} (ha : a = nI n) (hn : n < 64) (h3 : x3 = nI l) (hl : l < 64)
    (hq : ∀ x, (∀ g, bt x g = true ↔ ∃ d e, d < 13 ∧ e < 13 ∧ bt x4 d = true ∧ bt (w.1 20 (13 * l + d)) e = true ∧ bt (w.1 19 (39 * n + 13 * 2 + e)) g = true) → P (some (.int x)) w) :
    ∀ m i, i + m = 13 → ∀ x5 x6 : Int32, x6 = nI i → (∀ e, bt x5 e = true ↔ ∃ d, d < i ∧ bt x4 d = true ∧ bt (w.1 20 (13 * l + d)) e = true) → K 32 [(0, .ref 3), (1, .int a), (2, .int b), (3, .int x3), (4, .int x4), (5, .int x5), (6, .int x6)] [] w := by
  intro m
  induction m with
  | zero =>
    intro i hi x5 x6 e6 h5
    have : i = 13 := by omega
    subst this
    refine qq_go_ok S (fun pc => Nat.beq pc 32 || Nat.beq pc 73) 60 ?_
    conv => whnf
    refine br_t (i_ge 13 e6 (by omega) (by omega)) ?_
    conv => whnf
    refine qq_wk S (lp_through2 S (x5 := x5) ha hn (fun x hx => hq x fun g => ?_) 13 0 rfl _ _ rfl (fun g => ?_)) ⟨rfl, rfl, rfl, rfl, rfl, trivial⟩
    · rw [hx g]
      constructor
      · rintro ⟨e, z1, z2, z3⟩
        obtain ⟨d, y1, y2, y3⟩ := (h5 e).mp z2
        exact ⟨d, e, y1, z1, y2, y3, z3⟩
      · rintro ⟨d, e, z1, z2, z3, z4, z5⟩
        exact ⟨e, z2, (h5 e).mpr ⟨d, z1, z3, z4⟩, z5⟩
    · rw [b_0]
      constructor
      · intro z; cases z
      · rintro ⟨e, z, -⟩; omega
  | succ m ih =>
    intro i hi x5 x6 e6 h5
    refine qq_go_ok S (fun pc => Nat.beq pc 32 || Nat.beq pc 73) 60 ?_
    conv => whnf
    refine br_f (i_nge 13 e6 (by omega) (by omega)) ?_
    conv => whnf
    have hb' : (x4 >>> (x6 &&& 31)) &&& 1 = 0 ↔ bt x4 i = false := by rw [e6]; exact b_has (by omega) _
    refine ⟨fun h => ?_, fun h => ?_⟩
    · conv => whnf
      refine br_t rfl ?_
      conv => whnf
      refine qq_wk S (ih (i + 1) (by omega) _ _ (i_s e6) (fun g => ?_)) ⟨rfl, rfl, rfl, rfl, rfl, rfl, rfl, trivial⟩
      have h := hb'.mp h
      rw [h5 g]
      constructor
      · rintro ⟨e, h1, h2⟩; exact ⟨e, by omega, h2⟩
      · rintro ⟨e, h1, h2, h3⟩
        by_cases z : e = i
        · subst z; rw [h] at h2; cases h2
        · exact ⟨e, by omega, h2, h3⟩
    · have h := bt_not (fun z => h (hb'.mpr z))
      conv => whnf
      refine br_f (by decide) ?_
      conv => whnf
      have e := nI_ml h3 e6 (nI_lit 13)
      refine ⟨i_in 832 e (by omega) (by decide), ?_⟩
      conv => whnf
      refine qq_wk S (ih (i + 1) (by omega) _ _ (i_s e6) (fun g => ?_)) ⟨rfl, rfl, rfl, rfl, rfl, rfl, rfl, trivial⟩
      rw [b_or, Bool.or_eq_true, h5 g]
      show _ ∨ bt (w.1 20 (x3 * 13 + x6).toNatClampNeg) g = true ↔ _
      rw [i_c e (by omega)]
      constructor
      · rintro (⟨e, h1, h2⟩ | z)
        · exact ⟨e, by omega, h2⟩
        · exact ⟨i, by omega, h, z⟩
      · rintro ⟨e, h1, h2, h3⟩
        by_cases z : e = i
        · subst z; exact Or.inr h3
        · exact Or.inl ⟨e, by omega, h2, h3⟩
set_option maxHeartbeats 4000000 in
set_option maxRecDepth 100000 in
theorem bd_X5_through : ∀ As w P K, qq_Sat ww_sh ww_ro cs_X5_through (qq_at 112 kd_X5_through) (some .int) P K → T_X5_through As w P → K 0 (lv_args 0 As) [] w := by
  intro As w P K S h
  unfold T_X5_through at h
  split at h
  · rename_i a b
    obtain ⟨⟨hp, hp2, hp3, hp4⟩, hq⟩ := h
    obtain ⟨ea, ha⟩ := qn_eq hp (by decide)
    obtain ⟨eb, hb⟩ := qn_eq hp2 (by decide)
    obtain ⟨ep, hpp⟩ := qn_eq hp3 (by decide)
    obtain ⟨el, hl⟩ := qn_eq hp4 (by decide)
    refine qq_go_ok S (fun pc => Nat.beq pc 32 || Nat.beq pc 73) 60 ?_
    conv => whnf
    have e5 := nI_ml ea (x := 5) (i := 5) rfl (nI_lit 10)
    refine ⟨i_in 640 e5 (by omega) (by decide), ?_⟩
    conv => whnf
    have ev : w.1 13 (a * 10 + 5).toNatClampNeg = w.1 13 (10 * qn a + 5) := by rw [i_c e5 (by omega)]
    have ev2 : w.1 13 (a * 10 + 5).toNatClampNeg = nI (qn (w.1 13 (10 * qn a + 5))) := ev.trans ep
    refine ⟨i_in 8 ev2 (by omega) (by decide), ?_⟩
    conv => whnf
    have es := nI_st ea (b := 1) (p := 1) rfl eb
    refine ⟨i_in 2496 es (by omega) (by decide), ?_⟩
    conv => whnf
    have el2 : w.1 12 (w.1 13 (a * 10 + 5).toNatClampNeg).toNatClampNeg + 1 = nI (cLeave w (qn a)) := by
      rw [i_c ev2 (by omega)]
      exact i_s el
    refine qq_wk S (lp_through1 S (b := b) (x4 := w.1 19 (39 * qn a + 13 * 1 + qn b)) ea ha el2 (by unfold cLeave; omega) hq 13 0 rfl _ _ rfl (fun g => ?_)) ⟨rfl, rfl, rfl, rfl, ?_, rfl, rfl, trivial⟩
    · rw [b_0]
      constructor
      · intro z; cases z
      · rintro ⟨e, z, -⟩; omega
    · show some (Value.int (w.1 19 ((a * 3 + 1) * 13 + b).toNatClampNeg)) = _
      rw [i_c es (by omega)]
  · exact h.elim
theorem ha_X5_through : ∀ As w P, T_X5_through As w P → qq_wd As ≤ 8 := by
  intro As w P h
  unfold T_X5_through at h
  split at h
  · exact Nat.le_of_ble_eq_true rfl
  · exact h.elim
theorem hv_X5_through : ∀ As w P, T_X5_through As w P → ∃ (k : Nat) (r : List Value) (fs : List Nat), As = .ref k :: r ∧ ww_sh[k]? = some (.inr (5, fs)) := by
  intro As w P h
  unfold T_X5_through at h
  split at h
  · exact ⟨_, _, _, rfl, rfl⟩
  · exact h.elim
set_option maxRecDepth 100000 in
theorem M_X5_through (l : Launch) : qq_M l ww_T ww_N vwCl ww_sh ww_ro ww_zs yX5_through cX5_through 8 (some .int) (ww_rm 1) T_X5_through := by
  refine qq_mk (host := RX7) (is := ki_X5_through) (cs := cs_X5_through) (by decide) ww_k1 wl_X5 ww_so ww_so2 kc_X5_through kv_X5_through kg_X5_through ?_ ha_X5_through bd_X5_through
  intro k i q hi hq
  match k, hi, hq with
  | 0, hi, hq => cases hi; cases hq; exact fun p e s m args below meth c D tys tC ad Q pc X hdg => qq_cV (ci := 3) X ww_gd (M_X3_of l) kf_X3_of.1 (Or.inl (ww_a3 (i := 77) (w := Cond.methodLink RX5 95 yX3_of) rfl rfl)) kf_X3_of.2.1 kf_X3_of.2.2.1 kf_X3_of.2.2.2 ⟨by decide, by decide, by decide +kernel⟩ rfl rfl rfl ⟨by decide, by decide⟩ ⟨Nat.le_refl _, Nat.le_refl _⟩ hv_X3_of hdg
  | 1, hi, hq => cases hi; cases hq; exact fun p e s m args below meth c D tys tC ad Q pc X hdg => qq_cV (ci := 3) X ww_gd (M_X3_leaveOf l) kf_X3_leaveOf.1 (Or.inl (ww_a3 (i := 90) (w := Cond.methodLink RX5 127 yX3_leaveOf) rfl rfl)) kf_X3_leaveOf.2.1 kf_X3_leaveOf.2.2.1 kf_X3_leaveOf.2.2.2 ⟨by decide, by decide, by decide +kernel⟩ rfl rfl rfl ⟨by decide, by decide⟩ ⟨Nat.le_refl _, Nat.le_refl _⟩ hv_X3_leaveOf hdg
  | 2, hi, hq => cases hi; cases hq; exact fun p e s m args below meth c D tys tC ad Q pc X hdg => qq_cV (ci := 5) X ww_gd (M_X5_step l) kf_X5_step.1 (Or.inl (ww_a3 (i := 82) (w := Cond.methodLink RX5 104 yX5_step) rfl rfl)) kf_X5_step.2.1 kf_X5_step.2.2.1 kf_X5_step.2.2.2 ⟨by decide, by decide, by decide +kernel⟩ rfl rfl rfl ⟨by decide, by decide⟩ ⟨Nat.le_refl _, Nat.le_refl _⟩ hv_X5_step hdg
  | 3, hi, hq => cases hi; cases hq; exact fun p e s m args below meth c D tys tC ad Q pc X hdg => qq_cS X ww_gd (M_X7_has l) kf_X7_has.1 (Or.inr ⟨RX7, ww_n3 (i := 61) (w := Cond.methodLinkNest RX5 82 yX7_has RX7) rfl rfl⟩) kf_X7_has.2.1 kf_X7_has.2.2 ⟨by decide, by decide, by decide +kernel⟩ rfl rfl ⟨by decide, by decide⟩ ⟨Nat.le_refl _, Nat.le_refl _⟩ hdg
  | 4, hi, hq => cases hi; cases hq; exact fun p e s m args below meth c D tys tC ad Q pc X hdg => qq_cV (ci := 5) X ww_gd (M_X5_reached l) kf_X5_reached.1 (Or.inl (ww_a3 (i := 68) (w := Cond.methodLink RX5 92 yX5_reached) rfl rfl)) kf_X5_reached.2.1 kf_X5_reached.2.2.1 kf_X5_reached.2.2.2 ⟨by decide, by decide, by decide +kernel⟩ rfl rfl rfl ⟨by decide, by decide⟩ ⟨Nat.le_refl _, Nat.le_refl _⟩ hv_X5_reached hdg
  | n + 5, hi, hq => simp [cs_X5_through] at hq
abbrev cs_X5_addEntries : List (Nat × qq_t) := [(2, T_X7_has), (4, T_X5_add)]
def T_X5_addEntries : qq_t := fun As w P => match As with
  | [.ref 3, .int a, .int b] => ((vp_in a 8 ∧ vp_in (w.1 12 (qn a)) 64) ∧ ∃ f, cW w f) ∧ ∀ w', sAdd w w' (fun j e => e < 13 ∧ j = 13 * qn (w.1 12 (qn a)) + e ∧ bt b e = true) → P none w'
  | _ => False
theorem lp_addEntries {P : Option Value → qq_w → Prop} {K : Nat → qq_L → List Value → qq_w → Prop} (S : qq_Sat ww_sh ww_ro cs_X5_addEntries (qq_at 40 kd_X5_addEntries) none P K) {w : qq_w} {a b : Int32} {n l : Nat} (ha : a = nI n) (hn : n < 8) (hl : w.1 12 n = nI l) (hl2 : l < 64) (hf : ∃ f, cW w f)
    (hq : ∀ w', sAdd w w' (fun j e => e < 13 ∧ j = 13 * l + e ∧ bt b e = true) → P none w') :
    ∀ m i, i + m = 13 → ∀ (x3 : Int32) (w1 : qq_w), x3 = nI i → sAdd w w1 (fun j e => e < i ∧ j = 13 * l + e ∧ bt b e = true) → K 2 [(0, .ref 3), (1, .int a), (2, .int b), (3, .int x3)] [] w1 := by
  intro m
  induction m with
  | zero =>
    intro i hi x3 w1 e3 h1
    have : i = 13 := by omega
    subst this
    refine qq_go_ok S (fun pc => Nat.beq pc 2) 60 ?_
    conv => whnf
    refine br_t (i_ge 13 e3 (by omega) (by omega)) ?_
    conv => whnf
    exact hq _ h1
  | succ m ih =>
    intro i hi x3 w1 e3 h1
    refine qq_go_ok S (fun pc => Nat.beq pc 2) 60 ?_
    conv => whnf
    refine br_f (i_nge 13 e3 (by omega) (by omega)) ?_
    conv => whnf
    have hb' : (b >>> (x3 &&& 31)) &&& 1 = 0 ↔ bt b i = false := by rw [e3]; exact b_has (by omega) _
    refine ⟨fun h => ?_, fun h => ?_⟩
    · conv => whnf
      refine br_t rfl ?_
      conv => whnf
      have h := hb'.mp h
      refine qq_wk S (ih (i + 1) (by omega) _ _ (i_s e3) ⟨h1.1, fun j e => ?_⟩) ⟨rfl, rfl, rfl, rfl, trivial⟩
      rw [h1.2 j e]
      constructor
      · rintro (z | ⟨z1, z2, z3⟩)
        · exact Or.inl z
        · exact Or.inr ⟨by omega, z2, z3⟩
      · rintro (z | ⟨z1, z2, z3⟩)
        · exact Or.inl z
        · by_cases q : e = i
          · subst q; rw [h] at z3; cases z3
          · exact Or.inr ⟨by omega, z2, z3⟩
    · have h := bt_not (fun z => h (hb'.mpr z))
      conv => whnf
      refine br_f (by decide) ?_
      conv => whnf
      refine ⟨i_in 8 ha (by omega) (by decide), ?_⟩
      conv => whnf
      have e12 : w1.1 12 a.toNatClampNeg = nI l := by rw [h1.1.1.2 12 (by simp), i_c ha (by omega)]; exact hl
      refine ⟨⟨⟨i_in 64 e12 hl2 (by decide), i_in 13 e3 (by omega) (by decide), by rw [e3]; exact fs_one (by omega)⟩, sExt_W h1.1 hf⟩, fun w2 h2 => ?_⟩
      conv => whnf
      refine qq_wk S (ih (i + 1) (by omega) _ w2 (i_s e3) ⟨sExt_tr h1.1 h2.1, fun j e => ?_⟩) ⟨rfl, rfl, rfl, rfl, trivial⟩
      have h2e : bt (w2.1 20 j) e = true ↔ bt (w1.1 20 j) e = true ∨ (j = 13 * l + i ∧ e = i) := by
        have z := h2.2 j e
        have q1 : qn (w1.1 12 a.toNatClampNeg) = l := by rw [e12]; exact qn_nI (by omega)
        have q2 : qn x3 = i := by rw [e3]; exact qn_nI (by omega)
        rw [q1, q2, e3] at z
        dsimp only at z
        rw [b_one (n := i) (by omega), decide_eq_true_eq] at z
        exact z
      rw [h2e, h1.2 j e]
      constructor
      · rintro ((z | ⟨z1, z2, z3⟩) | ⟨z1, z2⟩)
        · exact Or.inl z
        · exact Or.inr ⟨by omega, z2, z3⟩
        · subst z2; exact Or.inr ⟨by omega, z1, h⟩
      · rintro (z | ⟨z1, z2, z3⟩)
        · exact Or.inl (Or.inl z)
        · by_cases q : e = i
          · subst q; exact Or.inr ⟨z2, rfl⟩
          · exact Or.inl (Or.inr ⟨by omega, z2, z3⟩)
set_option maxHeartbeats 4000000 in
set_option maxRecDepth 100000 in
theorem bd_X5_addEntries : ∀ As w P K, qq_Sat ww_sh ww_ro cs_X5_addEntries (qq_at 40 kd_X5_addEntries) none P K → T_X5_addEntries As w P → K 0 (lv_args 0 As) [] w := by
  intro As w P K S h
  unfold T_X5_addEntries at h
  split at h
  · rename_i a b
    obtain ⟨⟨⟨hp, hp2⟩, hf⟩, hq⟩ := h
    obtain ⟨ea, ha⟩ := qn_eq hp (by decide)
    obtain ⟨el, hl⟩ := qn_eq hp2 (by decide)
    refine qq_go_ok S (fun pc => Nat.beq pc 2) 60 ?_
    conv => whnf
    refine qq_wk S (lp_addEntries S ea ha el hl hf hq 13 0 rfl _ _ rfl ⟨sExt_rf, fun j e => ?_⟩) ⟨rfl, rfl, rfl, rfl, trivial⟩
    constructor
    · exact Or.inl
    · rintro (z | ⟨z, -⟩)
      · exact z
      · omega
  · exact h.elim
theorem ha_X5_addEntries : ∀ As w P, T_X5_addEntries As w P → qq_wd As ≤ 4 := by
  intro As w P h
  unfold T_X5_addEntries at h
  split at h
  · exact Nat.le_of_ble_eq_true rfl
  · exact h.elim
theorem hv_X5_addEntries : ∀ As w P, T_X5_addEntries As w P → ∃ (k : Nat) (r : List Value) (fs : List Nat), As = .ref k :: r ∧ ww_sh[k]? = some (.inr (5, fs)) := by
  intro As w P h
  unfold T_X5_addEntries at h
  split at h
  · exact ⟨_, _, _, rfl, rfl⟩
  · exact h.elim
set_option maxRecDepth 100000 in
theorem M_X5_addEntries (l : Launch) : qq_M l ww_T ww_N vwCl ww_sh ww_ro ww_zs yX5_addEntries cX5_addEntries 4 none (ww_rm 2) T_X5_addEntries := by
  refine qq_mk (host := RX7) (is := ki_X5_addEntries) (cs := cs_X5_addEntries) (by decide) ww_k1 wl_X5 ww_so ww_so2 kc_X5_addEntries kv_X5_addEntries kg_X5_addEntries ?_ ha_X5_addEntries bd_X5_addEntries
  intro k i q hi hq
  match k, hi, hq with
  | 0, hi, hq => cases hi; cases hq; exact fun p e s m args below meth c D tys tC ad Q pc X hdg => qq_cS X ww_gd (M_X7_has l) kf_X7_has.1 (Or.inr ⟨RX7, ww_n3 (i := 61) (w := Cond.methodLinkNest RX5 82 yX7_has RX7) rfl rfl⟩) kf_X7_has.2.1 kf_X7_has.2.2 ⟨by decide, by decide, by decide +kernel⟩ rfl rfl ⟨by decide, by decide⟩ ⟨Nat.le_refl _, Nat.le_refl _⟩ hdg
  | 1, hi, hq => cases hi; cases hq; exact fun p e s m args below meth c D tys tC ad Q pc X hdg => qq_cV (ci := 5) X ww_gd (M_X5_add l) kf_X5_add.1 (Or.inl (ww_a3 (i := 64) (w := Cond.methodLink RX5 89 yX5_add) rfl rfl)) kf_X5_add.2.1 kf_X5_add.2.2.1 kf_X5_add.2.2.2 ⟨by decide, by decide, by decide +kernel⟩ rfl rfl rfl ⟨by decide, by decide⟩ ⟨Nat.le_refl _, Nat.le_refl _⟩ hv_X5_add hdg
  | n + 2, hi, hq => simp [cs_X5_addEntries] at hq
abbrev cs_X5_comeBack : List (Nat × qq_t) := [(3, T_X5_reached), (3, T_X3_of), (4, T_X5_add)]
def T_X5_comeBack : qq_t := fun As w P => match As with
  | [.ref 3, .int a, .int b, .int x] => ((vp_in a 64 ∧ vp_in (w.1 13 (10 * qn a + 7)) 64 ∧ qn (w.1 13 (10 * qn a + 7)) ≠ qn a ∧ fs x) ∧ ∃ f, cW w f) ∧ ∀ w', sAdd w w' (fun j e => ∃ d, d < 13 ∧ j = 13 * qn (w.1 13 (10 * qn a + 7)) + d ∧ bt x e = true ∧ ∃ g, bt (w.1 20 (13 * qn a + d)) g = true ∧ bt b g = true) → P none w'
  | _ => False
theorem lp_comeBack {P : Option Value → qq_w → Prop} {K : Nat → qq_L → List Value → qq_w → Prop} (S : qq_Sat ww_sh ww_ro cs_X5_comeBack (qq_at 46 kd_X5_comeBack) none P K) {w : qq_w} {a b x : Int32} {n r : Nat} (ha : a = nI n) (hn : n < 64) (hr : w.1 13 (10 * n + 7) = nI r) (hr2 : r < 64) (hne : r ≠ n) (hx : fs x) (hf : ∃ f, cW w f)
    (hq : ∀ w', sAdd w w' (fun j e => ∃ d, d < 13 ∧ j = 13 * r + d ∧ bt x e = true ∧ ∃ g, bt (w.1 20 (13 * n + d)) g = true ∧ bt b g = true) → P none w') :
    ∀ m i, i + m = 13 → ∀ (x4 : Int32) (w1 : qq_w), x4 = nI i → sAdd w w1 (fun j e => ∃ d, d < i ∧ j = 13 * r + d ∧ bt x e = true ∧ ∃ g, bt (w.1 20 (13 * n + d)) g = true ∧ bt b g = true) → K 3 [(0, .ref 3), (1, .int a), (2, .int b), (3, .int x), (4, .int x4)] [] w1 := by
  intro m
  induction m with
  | zero =>
    intro i hi x4 w1 e4 h1
    have : i = 13 := by omega
    subst this
    refine qq_go_ok S (fun pc => Nat.beq pc 3) 60 ?_
    conv => whnf
    refine br_t (i_ge 13 e4 (by omega) (by omega)) ?_
    conv => whnf
    exact hq _ h1
  | succ m ih =>
    intro i hi x4 w1 e4 h1
    refine qq_go_ok S (fun pc => Nat.beq pc 3) 80 ?_
    conv => whnf
    refine br_f (i_nge 13 e4 (by omega) (by omega)) ?_
    conv => whnf
    have e := nI_ml ha e4 (nI_lit 13)
    refine ⟨i_in 832 e (by omega) (by decide), ?_⟩
    conv => whnf
    have ec := i_c e (by omega)
    have hrow : ∀ g, bt (w1.1 20 (a * 13 + x4).toNatClampNeg) g = true ↔ bt (w.1 20 (13 * n + i)) g = true := by
      intro g
      rw [ec, h1.2]
      constructor
      · rintro (z | ⟨d, z1, z2, -⟩)
        · exact z
        · omega
      · exact Or.inl
    have hcond : (w1.1 20 (a * 13 + x4).toNatClampNeg) &&& b = 0 ↔ ¬ ∃ g, bt (w.1 20 (13 * n + i)) g = true ∧ bt b g = true := by
      constructor
      · rintro z ⟨g, z1, z2⟩
        have : bt ((w1.1 20 (a * 13 + x4).toNatClampNeg) &&& b) g = true := by rw [b_and, (hrow g).mpr z1, z2]; rfl
        rw [z, b_0] at this
        cases this
      · intro z
        refine b_zero fun g _ => ?_
        cases q : bt ((w1.1 20 (a * 13 + x4).toNatClampNeg) &&& b) g with
        | false => rfl
        | true =>
          rw [b_and, Bool.and_eq_true] at q
          exact absurd ⟨g, (hrow g).mp q.1, q.2⟩ z
    refine ⟨fun h => ?_, fun h => ?_⟩
    · conv => whnf
      have h := hcond.mp h
      refine qq_wk S (ih (i + 1) (by omega) _ _ (i_s e4) ⟨h1.1, fun j e => ?_⟩) ⟨rfl, rfl, rfl, rfl, rfl, trivial⟩
      rw [h1.2 j e]
      constructor
      · rintro (z | ⟨d, z1, z2⟩)
        · exact Or.inl z
        · exact Or.inr ⟨d, by omega, z2⟩
      · rintro (z | ⟨d, z1, z2, z3, z4⟩)
        · exact Or.inl z
        · by_cases q : d = i
          · subst q; exact absurd z4 h
          · exact Or.inr ⟨d, by omega, z2, z3, z4⟩
    · have h : ∃ g, bt (w.1 20 (13 * n + i)) g = true ∧ bt b g = true := Classical.byContradiction fun z => h (hcond.mpr z)
      conv => whnf
      have e7 := nI_ml ha (x := 7) (i := 7) rfl (nI_lit 10)
      refine ⟨i_in 640 e7 (by omega) (by decide), ?_⟩
      conv => whnf
      have er : w1.1 13 (a * 10 + 7).toNatClampNeg = nI r := by rw [h1.1.1.2 13 (by simp), i_c e7 (by omega)]; exact hr
      refine ⟨⟨⟨i_in 64 er hr2 (by decide), i_in 13 e4 (by omega) (by decide), hx⟩, sExt_W h1.1 hf⟩, fun w2 h2 => ?_⟩
      conv => whnf
      refine qq_wk S (ih (i + 1) (by omega) _ w2 (i_s e4) ⟨sExt_tr h1.1 h2.1, fun j e => ?_⟩) ⟨rfl, rfl, rfl, rfl, rfl, trivial⟩
      have h2e : bt (w2.1 20 j) e = true ↔ bt (w1.1 20 j) e = true ∨ (j = 13 * r + i ∧ bt x e = true) := by
        have z := h2.2 j e
        have q1 : qn (w1.1 13 (a * 10 + 7).toNatClampNeg) = r := by rw [er]; exact qn_nI (by omega)
        have q2 : qn x4 = i := by rw [e4]; exact qn_nI (by omega)
        rw [q1, q2] at z
        exact z
      rw [h2e, h1.2 j e]
      constructor
      · rintro ((z | ⟨d, z1, z2⟩) | ⟨z1, z2⟩)
        · exact Or.inl z
        · exact Or.inr ⟨d, by omega, z2⟩
        · exact Or.inr ⟨i, by omega, z1, z2, h⟩
      · rintro (z | ⟨d, z1, z2, z3, z4⟩)
        · exact Or.inl (Or.inl z)
        · by_cases q : d = i
          · subst q; exact Or.inr ⟨z2, z3⟩
          · exact Or.inl (Or.inr ⟨d, by omega, z2, z3, z4⟩)
set_option maxHeartbeats 4000000 in
set_option maxRecDepth 100000 in
theorem bd_X5_comeBack : ∀ As w P K, qq_Sat ww_sh ww_ro cs_X5_comeBack (qq_at 46 kd_X5_comeBack) none P K → T_X5_comeBack As w P → K 0 (lv_args 0 As) [] w := by
  intro As w P K S h
  unfold T_X5_comeBack at h
  split at h
  · rename_i a b x
    obtain ⟨⟨⟨hp, hp2, hp3, hp4⟩, hf⟩, hq⟩ := h
    obtain ⟨ea, ha⟩ := qn_eq hp (by decide)
    obtain ⟨er, hr⟩ := qn_eq hp2 (by decide)
    refine qq_go_ok S (fun pc => Nat.beq pc 3) 60 ?_
    conv => whnf
    refine qq_wk S (lp_comeBack S ea ha er hr hp3 hp4 hf hq 13 0 rfl _ _ rfl ⟨sExt_rf, fun j e => ?_⟩) ⟨rfl, rfl, rfl, rfl, rfl, trivial⟩
    constructor
    · exact Or.inl
    · rintro (z | ⟨d, z, -⟩)
      · exact z
      · omega
  · exact h.elim
theorem ha_X5_comeBack : ∀ As w P, T_X5_comeBack As w P → qq_wd As ≤ 5 := by
  intro As w P h
  unfold T_X5_comeBack at h
  split at h
  · exact Nat.le_of_ble_eq_true rfl
  · exact h.elim
theorem hv_X5_comeBack : ∀ As w P, T_X5_comeBack As w P → ∃ (k : Nat) (r : List Value) (fs : List Nat), As = .ref k :: r ∧ ww_sh[k]? = some (.inr (5, fs)) := by
  intro As w P h
  unfold T_X5_comeBack at h
  split at h
  · exact ⟨_, _, _, rfl, rfl⟩
  · exact h.elim
set_option maxRecDepth 100000 in
theorem M_X5_comeBack (l : Launch) : qq_M l ww_T ww_N vwCl ww_sh ww_ro ww_zs yX5_comeBack cX5_comeBack 5 none (ww_rm 2) T_X5_comeBack := by
  refine qq_mk (host := RX7) (is := ki_X5_comeBack) (cs := cs_X5_comeBack) (by decide) ww_k1 wl_X5 ww_so ww_so2 kc_X5_comeBack kv_X5_comeBack kg_X5_comeBack ?_ ha_X5_comeBack bd_X5_comeBack
  intro k i q hi hq
  match k, hi, hq with
  | 0, hi, hq => cases hi; cases hq; exact fun p e s m args below meth c D tys tC ad Q pc X hdg => qq_cV (ci := 5) X ww_gd (M_X5_reached l) kf_X5_reached.1 (Or.inl (ww_a3 (i := 68) (w := Cond.methodLink RX5 92 yX5_reached) rfl rfl)) kf_X5_reached.2.1 kf_X5_reached.2.2.1 kf_X5_reached.2.2.2 ⟨by decide, by decide, by decide +kernel⟩ rfl rfl rfl ⟨by decide, by decide⟩ ⟨Nat.le_refl _, Nat.le_refl _⟩ hv_X5_reached hdg
  | 1, hi, hq => cases hi; cases hq; exact fun p e s m args below meth c D tys tC ad Q pc X hdg => qq_cV (ci := 3) X ww_gd (M_X3_of l) kf_X3_of.1 (Or.inl (ww_a3 (i := 77) (w := Cond.methodLink RX5 95 yX3_of) rfl rfl)) kf_X3_of.2.1 kf_X3_of.2.2.1 kf_X3_of.2.2.2 ⟨by decide, by decide, by decide +kernel⟩ rfl rfl rfl ⟨by decide, by decide⟩ ⟨Nat.le_refl _, Nat.le_refl _⟩ hv_X3_of hdg
  | 2, hi, hq => cases hi; cases hq; exact fun p e s m args below meth c D tys tC ad Q pc X hdg => qq_cV (ci := 5) X ww_gd (M_X5_add l) kf_X5_add.1 (Or.inl (ww_a3 (i := 64) (w := Cond.methodLink RX5 89 yX5_add) rfl rfl)) kf_X5_add.2.1 kf_X5_add.2.2.1 kf_X5_add.2.2.2 ⟨by decide, by decide, by decide +kernel⟩ rfl rfl rfl ⟨by decide, by decide⟩ ⟨Nat.le_refl _, Nat.le_refl _⟩ hv_X5_add hdg
  | n + 3, hi, hq => simp [cs_X5_comeBack] at hq
