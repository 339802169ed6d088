/-- what a turn from a CALL finds -/
def cFromCall (w : qq_w) (c d e j g : Nat) : Prop := (j = 13 * qn (w.1 13 (10 * c + 7)) + d ∧ (bt (w.1 19 (39 * c + 13 * 0 + e)) g = true ∨ cThr w c e g)) ∨ (g < 13 ∧ j = 13 * qn (w.1 12 (qn (w.1 13 (10 * c + 5)))) + g ∧ bt (w.1 19 (39 * c + 13 * 1 + e)) g = true)
/-- a CALL's places are as they must be -/
def cCall (w : qq_w) (c : Nat) : Prop := ∃ p r l, p < 8 ∧ r < 64 ∧ l < 63 ∧ r ≠ c ∧ r ≠ l ∧ r ≠ l + 1 ∧ w.1 13 (10 * c + 5) = nI p ∧ w.1 13 (10 * c + 7) = nI r ∧ w.1 12 p = nI l
theorem cThr_iff {w w1 : qq_w} {c : Nat} (h : qq_only [3, 20, 21] w w1) (hrow : ∀ d e, d < 13 → (bt (w1.1 20 (13 * cLeave w c + d)) e = true ↔ bt (w.1 20 (13 * cLeave w c + d)) e = true)) (f g : Nat) : cThr w1 c f g ↔ cThr w c f g := by
  have e1 : w1.1 12 = w.1 12 := h.2 12 (by simp)
  have e2 : w1.1 13 = w.1 13 := h.2 13 (by simp)
  have e3 : w1.1 19 = w.1 19 := h.2 19 (by simp)
  have e4 : cLeave w1 c = cLeave w c := by unfold cLeave; rw [e1, e2]
  unfold cThr
  rw [e3, e4]
  constructor
  · rintro ⟨d, e, a1, a2, a3, a4, a5⟩
    exact ⟨d, e, a1, a2, a3, (hrow d e a1).mp a4, a5⟩
  · rintro ⟨d, e, a1, a2, a3, a4, a5⟩
    exact ⟨d, e, a1, a2, a3, (hrow d e a1).mpr a4, a5⟩
abbrev cs_X5_goOnFromCall : List (Nat × qq_t) := [(3, T_X3_of), (4, T_X5_step), (4, T_X5_add), (3, T_X5_addEntries), (3, T_X5_through)]
def T_X5_goOnFromCall : qq_t := fun As w P => match As with
  | [.ref 3, .int a, .int b, .int x] => ((vp_in a 64 ∧ vp_in b 13 ∧ vp_in x 13 ∧ cCall w (qn a) ∧ ∀ j, fs (w.1 19 j)) ∧ ∃ f, cW w f) ∧ ∀ w', sAdd w w' (cFromCall w (qn a) (qn b) (qn x)) → P none w'
  | _ => False
set_option maxHeartbeats 4000000 in
set_option maxRecDepth 100000 in
theorem bd_X5_goOnFromCall : ∀ As w P K, qq_Sat ww_sh ww_ro cs_X5_goOnFromCall (qq_at 60 kd_X5_goOnFromCall) none P K → T_X5_goOnFromCall As w P → K 0 (lv_args 0 As) [] w := by
  intro As w P K S h
  unfold T_X5_goOnFromCall at h
  split at h
  · rename_i a b x
    obtain ⟨⟨⟨hp, hp2, hp3, hc, hfs⟩, hf⟩, hq⟩ := h
    obtain ⟨ea, ha⟩ := qn_eq hp (by decide)
    obtain ⟨eb, hb⟩ := qn_eq hp2 (by decide)
    obtain ⟨ex, hx⟩ := qn_eq hp3 (by decide)
    obtain ⟨pp, r, l, hpp, hr, hl, hrc, hrl, hrl1, e5, e7, e12⟩ := hc
    refine qq_go_ok S (fun _ => false) 60 ?_
    conv => whnf
    have i7 := nI_ml ea (x := 7) (i := 7) rfl (nI_lit 10)
    have i5 := nI_ml ea (x := 5) (i := 5) rfl (nI_lit 10)
    have s0 := nI_st ea (b := 0) (p := 0) rfl ex
    have s1 := nI_st ea (b := 1) (p := 1) rfl ex
    have c7 := i_c i7 (by omega)
    have c5 := i_c i5 (by omega)
    have cs0 := i_c s0 (by omega)
    have cs1 := i_c s1 (by omega)
    have er : w.1 13 (a * 10 + 7).toNatClampNeg = nI r := by rw [c7]; exact e7
    have qr : qn (w.1 13 (a * 10 + 7).toNatClampNeg) = r := by rw [er]; exact qn_nI (by omega)
    refine ⟨i_in 640 i7 (by omega) (by decide), ?_⟩
    conv => whnf
    refine ⟨i_in 2496 s0 (by omega) (by decide), ?_⟩
    conv => whnf
    refine ⟨⟨⟨i_in 64 er (by omega) (by decide), hp2, hfs _⟩, hf⟩, fun w1 h1 => ?_⟩
    conv => whnf
    refine ⟨i_in 640 i5 (by omega) (by decide), ?_⟩
    conv => whnf
    refine ⟨i_in 2496 s1 (by omega) (by decide), ?_⟩
    conv => whnf
    have o12 : w1.1 12 = w.1 12 := h1.1.1.2 12 (by simp)
    have o13 : w1.1 13 = w.1 13 := h1.1.1.2 13 (by simp)
    have o19 : w1.1 19 = w.1 19 := h1.1.1.2 19 (by simp)
    have ep : w1.1 13 (a * 10 + 5).toNatClampNeg = nI pp := by rw [o13, c5]; exact e5
    have qp : qn (w1.1 13 (a * 10 + 5).toNatClampNeg) = pp := by rw [ep]; exact qn_nI (by omega)
    have el : w1.1 12 (qn (w1.1 13 (a * 10 + 5).toNatClampNeg)) = nI l := by rw [qp, o12]; exact e12
    refine ⟨⟨⟨i_in 8 ep (by omega) (by decide), i_in 64 el (by omega) (by decide)⟩, sExt_W h1.1 hf⟩, fun w2 h2 => ?_⟩
    conv => whnf
    have p12 : w2.1 12 = w.1 12 := (h2.1.1.2 12 (by simp)).trans o12
    have p13 : w2.1 13 = w.1 13 := (h2.1.1.2 13 (by simp)).trans o13
    have p19 : w2.1 19 = w.1 19 := (h2.1.1.2 19 (by simp)).trans o19
    have f5 : w2.1 13 (10 * qn a + 5) = nI pp := by rw [p13]; exact e5
    have f12 : w2.1 12 (qn (w2.1 13 (10 * qn a + 5))) = nI l := by rw [f5, qn_nI (by omega), p12]; exact e12
    refine ⟨⟨hp, hp3, i_in 8 f5 (by omega) (by decide), i_in 63 f12 (by omega) (by decide)⟩, fun y hy => ?_⟩
    conv => whnf
    have hlv : cLeave w (qn a) = l + 1 := by unfold cLeave; rw [e5, qn_nI (by omega), e12, qn_nI (by omega)]
    have g1 : ∀ j e, bt (w1.1 20 j) e = true ↔ bt (w.1 20 j) e = true ∨ (j = 13 * r + qn b ∧ bt (w.1 19 (39 * qn a + 13 * 0 + qn x)) e = true) := by
      intro j e
      have z := h1.2 j e
      dsimp only at z
      rw [qr] at z
      rw [z]
      show _ ∨ (_ ∧ bt (w.1 19 ((a * 3 + 0) * 13 + x).toNatClampNeg) e = true) ↔ _
      rw [cs0]
    have g2 : ∀ j e, bt (w2.1 20 j) e = true ↔ bt (w1.1 20 j) e = true ∨ (e < 13 ∧ j = 13 * l + e ∧ bt (w.1 19 (39 * qn a + 13 * 1 + qn x)) e = true) := by
      intro j e
      have z := h2.2 j e
      dsimp only at z
      rw [el, qn_nI (by omega)] at z
      rw [z]
      show _ ∨ (_ ∧ _ ∧ bt (w1.1 19 ((a * 3 + 1) * 13 + x).toNatClampNeg) e = true) ↔ _
      rw [cs1, o19]
    have hrow : ∀ d e, d < 13 → (bt (w2.1 20 (13 * cLeave w (qn a) + d)) e = true ↔ bt (w.1 20 (13 * cLeave w (qn a) + d)) e = true) := by
      intro d e hd
      rw [g2, g1, hlv]
      constructor
      · rintro ((z | ⟨z, -⟩) | ⟨z1, z2, -⟩)
        · exact z
        · omega
        · omega
      · exact fun z => Or.inl (Or.inl z)
    have hthr : ∀ g, bt y g = true ↔ cThr w (qn a) (qn x) g := fun g => (hy g).trans (cThr_iff (qq_only_tr h1.1.1 h2.1.1) hrow _ g)
    have hfy : fs y := fun i hi => by
      cases z : bt y i with
      | false => rfl
      | true =>
        obtain ⟨d, e, -, -, -, -, q⟩ := (hthr i).mp z
        rw [hfs _ i hi] at q
        cases q
    refine ⟨⟨⟨i_in 64 er (by omega) (by decide), hp2, hfy⟩, sExt_W h2.1 (sExt_W h1.1 hf)⟩, fun w3 h3 => ?_⟩
    conv => whnf
    refine hq w3 ⟨sExt_tr (sExt_tr h1.1 h2.1) h3.1, fun j g => ?_⟩
    have z := h3.2 j g
    dsimp only at z
    rw [qr] at z
    rw [z, g2, g1, hthr g]
    unfold cFromCall
    rw [e7, qn_nI (by omega), e5, qn_nI (by omega), e12, qn_nI (by omega)]
    constructor
    · rintro (((z | ⟨z1, z2⟩) | z) | ⟨z1, z2⟩)
      · exact Or.inl z
      · exact Or.inr (Or.inl ⟨z1, Or.inl z2⟩)
      · exact Or.inr (Or.inr z)
      · exact Or.inr (Or.inl ⟨z1, Or.inr z2⟩)
    · rintro (z | ⟨z1, z2 | z2⟩ | z)
      · exact Or.inl (Or.inl (Or.inl z))
      · exact Or.inl (Or.inl (Or.inr ⟨z1, z2⟩))
      · exact Or.inr ⟨z1, z2⟩
      · exact Or.inl (Or.inr z)
  · exact h.elim
theorem ha_X5_goOnFromCall : ∀ As w P, T_X5_goOnFromCall As w P → qq_wd As ≤ 5 := by
  intro As w P h
  unfold T_X5_goOnFromCall at h
  split at h
  · exact Nat.le_of_ble_eq_true rfl
  · exact h.elim
theorem hv_X5_goOnFromCall : ∀ As w P, T_X5_goOnFromCall As w P → ∃ (k : Nat) (r : List Value) (fs : List Nat), As = .ref k :: r ∧ ww_sh[k]? = some (.inr (5, fs)) := by
  intro As w P h
  unfold T_X5_goOnFromCall at h
  split at h
  · exact ⟨_, _, _, rfl, rfl⟩
  · exact h.elim
set_option maxRecDepth 100000 in
theorem M_X5_goOnFromCall (l : Launch) : qq_M l ww_T ww_N vwCl ww_sh ww_ro ww_zs yX5_goOnFromCall cX5_goOnFromCall 5 none (ww_rm 3) T_X5_goOnFromCall := by
  refine qq_mk (host := RX7) (is := ki_X5_goOnFromCall) (cs := cs_X5_goOnFromCall) (by decide) ww_k1 wl_X5 ww_so ww_so2 kc_X5_goOnFromCall kv_X5_goOnFromCall kg_X5_goOnFromCall ?_ ha_X5_goOnFromCall bd_X5_goOnFromCall
  intro k i q hi hq
  match k, hi, hq with
  | 0, hi, hq => cases hi; cases hq; exact fun p e s m args below meth c D tys tC ad Q pc X hdg => qq_cV (ci := 3) X ww_gd (M_X3_of l) kf_X3_of.1 (Or.inl (ww_a3 (i := 77) (w := Cond.methodLink RX5 95 yX3_of) rfl rfl)) kf_X3_of.2.1 kf_X3_of.2.2.1 kf_X3_of.2.2.2 ⟨by decide, by decide, by decide +kernel⟩ rfl rfl rfl ⟨by decide, by decide⟩ ⟨Nat.le_refl _, Nat.le_refl _⟩ hv_X3_of hdg
  | 1, hi, hq => cases hi; cases hq; exact fun p e s m args below meth c D tys tC ad Q pc X hdg => qq_cV (ci := 5) X ww_gd (M_X5_step l) kf_X5_step.1 (Or.inl (ww_a3 (i := 82) (w := Cond.methodLink RX5 104 yX5_step) rfl rfl)) kf_X5_step.2.1 kf_X5_step.2.2.1 kf_X5_step.2.2.2 ⟨by decide, by decide, by decide +kernel⟩ rfl rfl rfl ⟨by decide, by decide⟩ ⟨Nat.le_refl _, Nat.le_refl _⟩ hv_X5_step hdg
  | 2, hi, hq => cases hi; cases hq; exact fun p e s m args below meth c D tys tC ad Q pc X hdg => qq_cV (ci := 5) X ww_gd (M_X5_add l) kf_X5_add.1 (Or.inl (ww_a3 (i := 64) (w := Cond.methodLink RX5 89 yX5_add) rfl rfl)) kf_X5_add.2.1 kf_X5_add.2.2.1 kf_X5_add.2.2.2 ⟨by decide, by decide, by decide +kernel⟩ rfl rfl rfl ⟨by decide, by decide⟩ ⟨Nat.le_refl _, Nat.le_refl _⟩ hv_X5_add hdg
  | 3, hi, hq => cases hi; cases hq; exact fun p e s m args below meth c D tys tC ad Q pc X hdg => qq_cV (ci := 5) X ww_gd (M_X5_addEntries l) kf_X5_addEntries.1 (Or.inl (ww_a3 (i := 57) (w := Cond.methodLink RX5 78 yX5_addEntries) rfl rfl)) kf_X5_addEntries.2.1 kf_X5_addEntries.2.2.1 kf_X5_addEntries.2.2.2 ⟨by decide, by decide, by decide +kernel⟩ rfl rfl rfl ⟨by decide, by decide⟩ ⟨Nat.le_refl _, Nat.le_refl _⟩ hv_X5_addEntries hdg
  | 4, hi, hq => cases hi; cases hq; exact fun p e s m args below meth c D tys tC ad Q pc X hdg => qq_cV (ci := 5) X ww_gd (M_X5_through l) kf_X5_through.1 (Or.inl (ww_a3 (i := 86) (w := Cond.methodLink RX5 115 yX5_through) rfl rfl)) kf_X5_through.2.1 kf_X5_through.2.2.1 kf_X5_through.2.2.2 ⟨by decide, by decide, by decide +kernel⟩ rfl rfl rfl ⟨by decide, by decide⟩ ⟨Nat.le_refl _, Nat.le_refl _⟩ hv_X5_through hdg
  | n + 5, hi, hq => simp [cs_X5_goOnFromCall] at hq
abbrev cs_X5_goOnFromLeave : List (Nat × qq_t) := [(3, T_X3_isCallOf), (3, T_X5_enteringBy), (4, T_X5_step), (4, T_X5_comeBack)]
/-- what a turn from a LEAVE finds, by the CALLS below n -/
def cFromLeave (w : qq_w) (p : Int32) (d e n j g : Nat) : Prop := ∃ c d', c < n ∧ w.1 13 (10 * c + 1) = 9 ∧ w.1 13 (10 * c + 5) = p ∧ d' < 13 ∧ j = 13 * qn (w.1 13 (10 * c + 7)) + d' ∧ bt (w.1 19 (39 * c + 13 * 2 + e)) g = true ∧ ∃ f, f < 13 ∧ bt (w.1 20 (13 * c + d')) f = true ∧ bt (w.1 19 (39 * c + 13 * 1 + f)) d = true
def T_X5_goOnFromLeave : qq_t := fun As w P => match As with
  | [.ref 3, .int p, .int b, .int x] => ((vp_in (w.1 1 10) 65 ∧ vp_in b 13 ∧ vp_in x 13 ∧ (∀ j, fs (w.1 19 j)) ∧ ∀ c, c < qn (w.1 1 10) → w.1 13 (10 * c + 1) = 9 → ∃ r, r < 64 ∧ w.1 13 (10 * c + 7) = nI r ∧ w.1 13 (10 * r + 1) = 10) ∧ ∃ f, cW w f) ∧ ∀ w', sAdd w w' (cFromLeave w p (qn b) (qn x) (qn (w.1 1 10))) → P none w'
  | _ => False
theorem lp_goOnFromLeave {P : Option Value → qq_w → Prop} {K : Nat → qq_L → List Value → qq_w → Prop} (S : qq_Sat ww_sh ww_ro cs_X5_goOnFromLeave (qq_at 56 kd_X5_goOnFromLeave) none P K) {w : qq_w} {p b x : Int32} {n d e : Nat} (en : w.1 1 10 = nI n) (hn : n ≤ 64) (hb : b = nI d) (hd : d < 13) (hx : x = nI e) (he : e < 13) (hfs : ∀ j, fs (w.1 19 j))
    (hc : ∀ c, c < n → w.1 13 (10 * c + 1) = 9 → ∃ r, r < 64 ∧ w.1 13 (10 * c + 7) = nI r ∧ w.1 13 (10 * r + 1) = 10) (hf : ∃ f, cW w f) (hq : ∀ w', sAdd w w' (cFromLeave w p d e n) → P none w') :
    ∀ m i, i + m = n → ∀ (x4 : Int32) (w1 : qq_w), x4 = nI i → sAdd w w1 (cFromLeave w p d e i) → K 3 [(0, .ref 3), (1, .int p), (2, .int b), (3, .int x), (4, .int x4)] [] w1 := by
  intro m
  induction m with
  | zero =>
    intro i hi x4 w1 e4 h1
    have : i = n := by omega
    subst this
    refine qq_go_ok S (fun pc => Nat.beq pc 3) 60 ?_
    conv => whnf
    have en1 : w1.1 1 10 = nI i := by rw [h1.1.1.2 1 (by simp)]; exact en
    refine br_t (i_ge' e4 en1 (by omega) (by omega)) ?_
    conv => whnf
    exact hq _ h1
  | succ m ih =>
    intro i hi x4 w1 e4 h1
    have o13 : w1.1 13 = w.1 13 := h1.1.1.2 13 (by simp)
    have o19 : w1.1 19 = w.1 19 := h1.1.1.2 19 (by simp)
    have en1 : w1.1 1 10 = nI n := by rw [h1.1.1.2 1 (by simp)]; exact en
    have i1 := nI_ml e4 (x := 1) (i := 1) rfl (nI_lit 10)
    have i5 := nI_ml e4 (x := 5) (i := 5) rfl (nI_lit 10)
    have c1 : w1.1 13 (x4 * 10 + 1).toNatClampNeg = w.1 13 (10 * i + 1) := by rw [o13, i_c i1 (by omega)]
    have c5 : w1.1 13 (x4 * 10 + 5).toNatClampNeg = w.1 13 (10 * i + 5) := by rw [o13, i_c i5 (by omega)]
    have skip : ¬ (w.1 13 (10 * i + 1) = 9 ∧ w.1 13 (10 * i + 5) = p) → sAdd w w1 (cFromLeave w p d e (i + 1)) := by
      intro hno
      refine ⟨h1.1, fun j g => ?_⟩
      rw [h1.2 j g]
      constructor
      · rintro (z | ⟨c, d', z1, z2⟩)
        · exact Or.inl z
        · exact Or.inr ⟨c, d', by omega, z2⟩
      · rintro (z | ⟨c, d', z1, z2, z3, z4⟩)
        · exact Or.inl z
        · by_cases q : c = i
          · subst q; exact absurd ⟨z2, z3⟩ hno
          · exact Or.inr ⟨c, d', by omega, z2, z3, z4⟩
    refine qq_go_ok S (fun pc => Nat.beq pc 3) 80 ?_
    conv => whnf
    refine br_f (i_lt' e4 en1 (by omega) (by omega)) ?_
    conv => whnf
    refine ⟨i_in 640 i1 (by omega) (by decide), ?_⟩
    conv => whnf
    refine ⟨fun h => ?_, fun h => ?_⟩
    · conv => whnf
      refine br_t rfl ?_
      conv => whnf
      have h : ¬ w1.1 13 (x4 * 10 + 1).toNatClampNeg = 9 := h
      rw [c1] at h
      exact qq_wk S (ih (i + 1) (by omega) _ _ (i_s e4) (skip fun z => h z.1)) ⟨rfl, rfl, rfl, rfl, rfl, trivial⟩
    conv => whnf
    have h : w1.1 13 (x4 * 10 + 1).toNatClampNeg = 9 := h
    rw [c1] at h
    refine ⟨i_in 640 i5 (by omega) (by decide), ?_⟩
    conv => whnf
    refine ⟨fun h5 => ?_, fun h5 => ?_⟩
    · conv => whnf
      refine br_t rfl ?_
      conv => whnf
      have h5 : ¬ w1.1 13 (x4 * 10 + 5).toNatClampNeg = p := h5
      rw [c5] at h5
      exact qq_wk S (ih (i + 1) (by omega) _ _ (i_s e4) (skip fun z => h5 z.2)) ⟨rfl, rfl, rfl, rfl, rfl, trivial⟩
    conv => whnf
    refine br_f (by decide) ?_
    have h5 : w1.1 13 (x4 * 10 + 5).toNatClampNeg = p := h5
    rw [c5] at h5
    conv => whnf
    have q4 : qn x4 = i := by rw [e4]; exact qn_nI (by omega)
    have qd : qn b = d := by rw [hb]; exact qn_nI (by omega)
    refine ⟨⟨i_in 64 e4 (by omega) (by decide), i_in 13 hb hd (by decide)⟩, fun y hy => ?_⟩
    conv => whnf
    have s2 := nI_st e4 (b := 2) (p := 2) rfl hx
    refine ⟨i_in 2496 s2 (by omega) (by decide), ?_⟩
    conv => whnf
    obtain ⟨r, hr, er, kr⟩ := hc i (by omega) h
    have er1 : w1.1 13 (10 * qn x4 + 7) = nI r := by rw [q4, o13]; exact er
    have qr : qn (w1.1 13 (10 * qn x4 + 7)) = r := by rw [er1]; exact qn_nI (by omega)
    have hri : r ≠ i := by
      intro z
      subst z
      rw [h] at kr
      exact absurd kr (by decide)
    have cs2 : w1.1 19 ((x4 * 3 + 2) * 13 + x).toNatClampNeg = w.1 19 (39 * i + 13 * 2 + e) := by rw [o19, i_c s2 (by omega)]
    refine ⟨⟨⟨i_in 64 e4 (by omega) (by decide), i_in 64 er1 hr (by decide), by rw [qr, q4]; exact hri, ?_⟩, sExt_W h1.1 hf⟩, fun w2 h2 => ?_⟩
    · show fs (w1.1 19 ((x4 * 3 + 2) * 13 + x).toNatClampNeg)
      rw [cs2]
      exact hfs _
    conv => whnf
    refine qq_wk S (ih (i + 1) (by omega) _ w2 (i_s e4) ⟨sExt_tr h1.1 h2.1, fun j g => ?_⟩) ⟨rfl, rfl, rfl, rfl, rfl, trivial⟩
    have hrow : ∀ d' f, d' < 13 → (bt (w1.1 20 (13 * i + d')) f = true ↔ bt (w.1 20 (13 * i + d')) f = true) := by
      intro d' f hd'
      rw [h1.2]
      constructor
      · rintro (z | ⟨c, d2, z1, z2, z3, z4, z5, -⟩)
        · exact z
        · exfalso
          obtain ⟨r2, hr2, er2, kr2⟩ := hc c (by omega) z2
          rw [er2, qn_nI (by omega)] at z5
          have : r2 = i := by omega
          subst this
          rw [h] at kr2
          exact absurd kr2 (by decide)
      · exact Or.inl
    have h2e : bt (w2.1 20 j) g = true ↔ bt (w1.1 20 j) g = true ∨ (∃ d', d' < 13 ∧ j = 13 * r + d' ∧ bt (w.1 19 (39 * i + 13 * 2 + e)) g = true ∧ ∃ f, f < 13 ∧ bt (w.1 20 (13 * i + d')) f = true ∧ bt (w.1 19 (39 * i + 13 * 1 + f)) d = true) := by
      have z := h2.2 j g
      dsimp only at z
      rw [qr, q4] at z
      rw [z]
      refine or_congr Iff.rfl ⟨?_, ?_⟩
      · rintro ⟨d', a1, a2, a3, f, a4, a5⟩
        have a3 : bt (w1.1 19 ((x4 * 3 + 2) * 13 + x).toNatClampNeg) g = true := a3
        rw [cs2] at a3
        have := (hy f).mp a5
        rw [q4, qd, o19] at this
        exact ⟨d', a1, a2, a3, f, this.1, (hrow d' f a1).mp a4, this.2⟩
      · rintro ⟨d', a1, a2, a3, f, a4, a5, a6⟩
        refine ⟨d', a1, a2, ?_, f, (hrow d' f a1).mpr a5, (hy f).mpr ?_⟩
        · show bt (w1.1 19 ((x4 * 3 + 2) * 13 + x).toNatClampNeg) g = true
          rw [cs2]
          exact a3
        · rw [q4, qd, o19]
          exact ⟨a4, a6⟩
    rw [h2e, h1.2 j g]
    constructor
    · rintro ((z | ⟨c, d', z1, z2⟩) | ⟨d', a1, a2, a3, a4⟩)
      · exact Or.inl z
      · exact Or.inr ⟨c, d', by omega, z2⟩
      · exact Or.inr ⟨i, d', by omega, h, h5, a1, by rw [er, qn_nI (by omega)]; exact a2, a3, a4⟩
    · rintro (z | ⟨c, d', z1, z2, z3, z4, z5, z6, z7⟩)
      · exact Or.inl (Or.inl z)
      · by_cases q : c = i
        · subst q
          rw [er, qn_nI (by omega)] at z5
          exact Or.inr ⟨d', z4, z5, z6, z7⟩
        · exact Or.inl (Or.inr ⟨c, d', by omega, z2, z3, z4, z5, z6, z7⟩)
set_option maxHeartbeats 4000000 in
set_option maxRecDepth 100000 in
theorem bd_X5_goOnFromLeave : ∀ As w P K, qq_Sat ww_sh ww_ro cs_X5_goOnFromLeave (qq_at 56 kd_X5_goOnFromLeave) none P K → T_X5_goOnFromLeave As w P → K 0 (lv_args 0 As) [] w := by
  intro As w P K S h
  unfold T_X5_goOnFromLeave at h
  split at h
  · rename_i p b x
    obtain ⟨⟨⟨hp, hp2, hp3, hfs, hc⟩, hf⟩, hq⟩ := h
    obtain ⟨en, hn⟩ := qn_eq hp (by decide)
    obtain ⟨eb, hb⟩ := qn_eq hp2 (by decide)
    obtain ⟨ex, hx⟩ := qn_eq hp3 (by decide)
    refine qq_go_ok S (fun pc => Nat.beq pc 3) 60 ?_
    conv => whnf
    refine qq_wk S (lp_goOnFromLeave S en (by omega) eb hb ex hx hfs hc hf hq _ 0 (Nat.zero_add _) _ _ rfl ⟨sExt_rf, fun j e => ?_⟩) ⟨rfl, rfl, rfl, rfl, rfl, trivial⟩
    constructor
    · exact Or.inl
    · rintro (z | ⟨c, d, z, -⟩)
      · exact z
      · omega
  · exact h.elim
theorem ha_X5_goOnFromLeave : ∀ As w P, T_X5_goOnFromLeave As w P → qq_wd As ≤ 5 := by
  intro As w P h
  unfold T_X5_goOnFromLeave at h
  split at h
  · exact Nat.le_of_ble_eq_true rfl
  · exact h.elim
theorem hv_X5_goOnFromLeave : ∀ As w P, T_X5_goOnFromLeave As w P → ∃ (k : Nat) (r : List Value) (fs : List Nat), As = .ref k :: r ∧ ww_sh[k]? = some (.inr (5, fs)) := by
  intro As w P h
  unfold T_X5_goOnFromLeave at h
  split at h
  · exact ⟨_, _, _, rfl, rfl⟩
  · exact h.elim
set_option maxRecDepth 100000 in
theorem M_X5_goOnFromLeave (l : Launch) : qq_M l ww_T ww_N vwCl ww_sh ww_ro ww_zs yX5_goOnFromLeave cX5_goOnFromLeave 5 none (ww_rm 3) T_X5_goOnFromLeave := by
  refine qq_mk (host := RX7) (is := ki_X5_goOnFromLeave) (cs := cs_X5_goOnFromLeave) (by decide) ww_k1 wl_X5 ww_so ww_so2 kc_X5_goOnFromLeave kv_X5_goOnFromLeave kg_X5_goOnFromLeave ?_ ha_X5_goOnFromLeave bd_X5_goOnFromLeave
  intro k i q hi hq
  match k, hi, hq with
  | 0, hi, hq => cases hi; cases hq; exact fun p e s m args below meth c D tys tC ad Q pc X hdg => qq_cV (ci := 3) X ww_gd (M_X3_isCallOf l) kf_X3_isCallOf.1 (Or.inl (ww_a3 (i := 95) (w := Cond.methodLink RX5 118 yX3_isCallOf) rfl rfl)) kf_X3_isCallOf.2.1 kf_X3_isCallOf.2.2.1 kf_X3_isCallOf.2.2.2 ⟨by decide, by decide, by decide +kernel⟩ rfl rfl rfl ⟨by decide, by decide⟩ ⟨Nat.le_refl _, Nat.le_refl _⟩ hv_X3_isCallOf hdg
  | 1, hi, hq => cases hi; cases hq; exact fun p e s m args below meth c D tys tC ad Q pc X hdg => qq_cV (ci := 5) X ww_gd (M_X5_enteringBy l) kf_X5_enteringBy.1 (Or.inl (ww_a3 (i := 99) (w := Cond.methodLink RX5 121 yX5_enteringBy) rfl rfl)) kf_X5_enteringBy.2.1 kf_X5_enteringBy.2.2.1 kf_X5_enteringBy.2.2.2 ⟨by decide, by decide, by decide +kernel⟩ rfl rfl rfl ⟨by decide, by decide⟩ ⟨Nat.le_refl _, Nat.le_refl _⟩ hv_X5_enteringBy hdg
  | 2, hi, hq => cases hi; cases hq; exact fun p e s m args below meth c D tys tC ad Q pc X hdg => qq_cV (ci := 5) X ww_gd (M_X5_step l) kf_X5_step.1 (Or.inl (ww_a3 (i := 82) (w := Cond.methodLink RX5 104 yX5_step) rfl rfl)) kf_X5_step.2.1 kf_X5_step.2.2.1 kf_X5_step.2.2.2 ⟨by decide, by decide, by decide +kernel⟩ rfl rfl rfl ⟨by decide, by decide⟩ ⟨Nat.le_refl _, Nat.le_refl _⟩ hv_X5_step hdg
  | 3, hi, hq => cases hi; cases hq; exact fun p e s m args below meth c D tys tC ad Q pc X hdg => qq_cV (ci := 5) X ww_gd (M_X5_comeBack l) kf_X5_comeBack.1 (Or.inl (ww_a3 (i := 103) (w := Cond.methodLink RX5 124 yX5_comeBack) rfl rfl)) kf_X5_comeBack.2.1 kf_X5_comeBack.2.2.1 kf_X5_comeBack.2.2.2 ⟨by decide, by decide, by decide +kernel⟩ rfl rfl rfl ⟨by decide, by decide⟩ ⟨Nat.le_refl _, Nat.le_refl _⟩ hv_X5_comeBack hdg
  | n + 4, hi, hq => simp [cs_X5_goOnFromLeave] at hq
