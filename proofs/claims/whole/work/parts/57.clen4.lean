abbrev cs_X2_offerEnters : List (Nat × qq_t) := [(2, T_X4_clear), (3, T_X5_reached), (5, T_X2_offerAll)]
def cE0 (w : qq_w) (N : Nat) : Prop := (∀ p, p < qn (w.1 1 9) → ∃ l, l < N ∧ w.1 12 p = nI l ∧ cX w l 1 = 0 ∧ cX w l 0 = nI p) ∧ ∀ p l d e, p < qn (w.1 1 9) → w.1 12 p = nI l → l < N → d < 13 → bt (w.1 20 (13 * l + d)) e = true → e = d
/-- lengths as they begin -/
def cEi (w : qq_w) (R : Nat → Prop) (w1 : qq_w) : Prop := cFr w w1 ∧ cHp w1 ∧ ∀ c, c < cM w → (R c ∧ w1.2 33 c = lN 0 ∧ cIn w1 c) ∨ (¬ R c ∧ w1.2 33 c = lN 2000000000000 ∧ ¬ cIn w1 c)
def T_X2_offerEnters : qq_t := fun As w P => match As with
  | [.ref 4] => (cPW w (qn (w.1 1 10)) ∧ vp_in (w.1 1 9) 9 ∧ cE0 w (qn (w.1 1 10))) ∧ ∀ w', cEi w (fun c => ∃ n d, n < 64 ∧ cEnt w n d ∧ c = 169 * n + 13 * d + d) w' → P none w'
  | _ => False
theorem cEi_ok {w w1 : qq_w} {R : Nat → Prop} (h : cEi w R w1) : lOk (w1.2 33) 2000000000000 (cM w1) := by
  intro c hc
  rw [cM_fr h.1] at hc
  rcases h.2.2 c hc with ⟨-, z, -⟩ | ⟨-, z, -⟩
  · exact ⟨0, z, Or.inl (by omega)⟩
  · exact ⟨_, z, Or.inr rfl⟩
theorem cEi_iff {w w1 : qq_w} {R R' : Nat → Prop} (h : cEi w R w1) (hR : ∀ c, c < cM w → (R c ↔ R' c)) : cEi w R' w1 := by
  refine ⟨h.1, h.2.1, fun c hc => ?_⟩
  rcases h.2.2 c hc with ⟨z, y⟩ | ⟨z, y⟩
  · exact Or.inl ⟨(hR c hc).mp z, y⟩
  · exact Or.inr ⟨fun t => z ((hR c hc).mpr t), y⟩
theorem oe_35 {P : Option Value → qq_w → Prop} {K : Nat → qq_L → List Value → qq_w → Prop} (S : qq_Sat ww_sh ww_ro cs_X2_offerEnters (qq_at 80 kd_X2_offerEnters) none P K) {w : qq_w} {x1 : Int32} {p l N : Nat} (hP : cPW w N) (hE : cE0 w N) (e1 : x1 = nI p) (hp : p < 8) (hpM : p < qn (w.1 1 9)) (el : w.1 12 p = nI l) (hl : l < N) {R : Nat → Prop}
    (hk : ∀ w1, cEi w (fun c => R c ∨ ∃ d, d < 13 ∧ bt (w.1 20 (13 * l + d)) d = true ∧ c = 169 * l + 13 * d + d) w1 → K 22 [(0, .ref 4), (1, .int (x1 + 1))] [] w1) :
    ∀ m i, i + m = 13 → ∀ (x2 : Int32) (w1 : qq_w), x2 = nI i → cEi w (fun c => R c ∨ ∃ d, d < i ∧ bt (w.1 20 (13 * l + d)) d = true ∧ c = 169 * l + 13 * d + d) w1 → K 35 [(0, .ref 4), (1, .int x1), (2, .int x2)] [] w1 := by
  have hN := hP.2.1
  have hM : cM w = 169 * N := cM_N hP
  intro m
  induction m with
  | zero =>
    intro i hi x2 w1 e2 h1
    have : i = 13 := by omega
    subst this
    refine qq_go_ok S (fun pc => Nat.beq pc 35 || Nat.beq pc 22) 60 ?_
    conv => whnf
    refine br_t (i_ge 13 e2 (by omega) (by omega)) ?_
    conv => whnf
    exact qq_wk S (hk w1 h1) ⟨rfl, rfl, trivial⟩
  | succ m ih =>
    intro i hi x2 w1 e2 h1
    have o12 : w1.1 12 x1.toNatClampNeg = nI l := by rw [h1.1.1 12 (by simp), i_c e1 (by omega)]; exact el
    have q12 : qn (w1.1 12 x1.toNatClampNeg) = l := by rw [o12]; exact qn_nI (by omega)
    have q2 : qn x2 = i := by rw [e2]; exact qn_nI (by omega)
    have ir : w1.1 12 x1.toNatClampNeg * 13 + x2 = nI (13 * l + i) := nI_ml o12 e2 (nI_lit 13)
    have c20 : w1.1 20 (w1.1 12 x1.toNatClampNeg * 13 + x2).toNatClampNeg = w.1 20 (13 * l + i) := by rw [i_c ir (by omega), h1.1.1 20 (by simp)]
    have hP1 := cPW_fr h1.1 hP
    refine qq_go_ok S (fun pc => Nat.beq pc 35) 60 ?_
    conv => whnf
    refine br_f (i_nge 13 e2 (by omega) (by omega)) ?_
    conv => whnf
    refine ⟨i_in 8 e1 (by omega) (by decide), ?_⟩
    conv => whnf
    refine ⟨i_in 832 ir (by omega) (by decide), ?_⟩
    conv => whnf
    refine ⟨⟨i_in 64 o12 (by omega) (by decide), cN_in hP1, by rw [cN_N hP1]; show qn (w1.1 12 x1.toNatClampNeg) < N; rw [q12]; exact hl, i_in 13 e2 (by omega) (by decide), h1.2.1, cEi_ok h1, 0, rfl, by omega⟩, fun w2 k1 k2 => ?_⟩
    have k1 : cRl w1 w2 0 (fun c L => L = 0 ∧ ∃ f, f < 13 ∧ bt (w1.1 20 (w1.1 12 x1.toNatClampNeg * 13 + x2).toNatClampNeg) f = true ∧ c = 169 * qn (w1.1 12 x1.toNatClampNeg) + 13 * qn x2 + f) := k1
    have k2 : ∀ f, f < 13 → bt (w1.1 20 (w1.1 12 x1.toNatClampNeg * 13 + x2).toNatClampNeg) f = true → lq (w2.2 33 (169 * qn (w1.1 12 x1.toNatClampNeg) + 13 * qn x2 + f)) ≤ 0 := k2
    rw [c20, q12, q2] at k1 k2
    conv => whnf
    refine qq_wk S (ih (i + 1) (by omega) _ w2 (i_s e2) ⟨cFr_tr h1.1 k1.1, k1.2.1, fun c hc => ?_⟩) ⟨rfl, rfl, rfl, trivial⟩
    rcases k1.2.2 c (by rw [cM_fr h1.1]; exact hc) with ⟨z1, z2⟩ | ⟨L, -, z2, z3, -, z5, z6, f, z7, z8, z9⟩
    · rcases h1.2.2 c hc with ⟨y1, y2, y3⟩ | ⟨y1, y2, y3⟩
      · refine Or.inl ⟨?_, z1.trans y2, z2.mpr y3⟩
        rcases y1 with y | ⟨d, t1, t2⟩
        · exact Or.inl y
        · exact Or.inr ⟨d, by omega, t2⟩
      · refine Or.inr ⟨fun t => ?_, z1.trans y2, fun t => y3 (z2.mp t)⟩
        rcases t with t | ⟨d, t1, t2, t3⟩
        · exact y1 (Or.inl t)
        · by_cases q : d = i
          · subst q
            have := k2 d (by omega) t2
            rw [← t3, z1, y2, lq_lN (by omega)] at this
            omega
          · exact y1 (Or.inr ⟨d, by omega, t2, t3⟩)
    · have hfi : f = i := hE.2 p l i f hpM el hl (by omega) z8
      subst hfi
      subst z6
      exact Or.inl ⟨Or.inr ⟨f, by omega, z8, z9⟩, z3, z5⟩
theorem oe_22 {P : Option Value → qq_w → Prop} {K : Nat → qq_L → List Value → qq_w → Prop} (S : qq_Sat ww_sh ww_ro cs_X2_offerEnters (qq_at 80 kd_X2_offerEnters) none P K) {w : qq_w} {M N : Nat} (hP : cPW w N) (hE : cE0 w N) (eM : w.1 1 9 = nI M) (hM8 : M ≤ 8)
    (hq : ∀ w1, cEi w (fun c => ∃ p l d, p < M ∧ l < N ∧ w.1 12 p = nI l ∧ d < 13 ∧ bt (w.1 20 (13 * l + d)) d = true ∧ c = 169 * l + 13 * d + d) w1 → P none w1) :
    ∀ m i, i + m = M → ∀ (x1 : Int32) (w1 : qq_w), x1 = nI i → cEi w (fun c => ∃ p l d, p < i ∧ l < N ∧ w.1 12 p = nI l ∧ d < 13 ∧ bt (w.1 20 (13 * l + d)) d = true ∧ c = 169 * l + 13 * d + d) w1 → K 22 [(0, .ref 4), (1, .int x1)] [] w1 := by
  have hN := hP.2.1
  have qM : qn (w.1 1 9) = M := by rw [eM]; exact qn_nI (by omega)
  intro m
  induction m with
  | zero =>
    intro i hi x1 w1 e1 h1
    have : i = M := by omega
    subst this
    have e9 : w1.1 1 9 = nI i := by rw [h1.1.1 1 (by simp)]; exact eM
    refine qq_go_ok S (fun pc => Nat.beq pc 22) 60 ?_
    conv => whnf
    refine br_t (i_ge' e1 e9 (by omega) (by omega)) ?_
    conv => whnf
    exact hq w1 h1
  | succ m ih =>
    intro i hi x1 w1 e1 h1
    have e9 : w1.1 1 9 = nI M := by rw [h1.1.1 1 (by simp)]; exact eM
    obtain ⟨l, hl, el, -⟩ := hE.1 i (by omega)
    refine qq_go_ok S (fun pc => Nat.beq pc 35) 60 ?_
    conv => whnf
    refine br_f (i_lt' e1 e9 (by omega) (by omega)) ?_
    conv => whnf
    refine qq_wk S (oe_35 S (l := l) hP hE e1 (by omega) (by omega) el hl (R := fun c => ∃ p l d, p < i ∧ l < N ∧ w.1 12 p = nI l ∧ d < 13 ∧ bt (w.1 20 (13 * l + d)) d = true ∧ c = 169 * l + 13 * d + d) (fun w2 h2 => ih (i + 1) (by omega) _ w2 (i_s e1) (cEi_iff h2 (fun c _ => ⟨?_, ?_⟩))) 13 0 rfl _ w1 rfl (cEi_iff h1 (fun c _ => ⟨Or.inl, ?_⟩))) ⟨rfl, rfl, rfl, trivial⟩
    · rintro (⟨p, l', d, z1, z2⟩ | ⟨d, z1, z2, z3⟩)
      · exact ⟨p, l', d, by omega, z2⟩
      · exact ⟨i, l, d, by omega, hl, el, z1, z2, z3⟩
    · rintro ⟨p, l', d, z1, z2, z3, z4, z5, z6⟩
      by_cases q : p = i
      · subst q
        have : l' = l := (nI_eq (by omega) (by omega)).mp (z3.symm.trans el)
        subst this
        exact Or.inr ⟨d, z4, z5, z6⟩
      · exact Or.inl ⟨p, l', d, by omega, z2, z3, z4, z5, z6⟩
    · rintro (z | ⟨d, z, -⟩)
      · exact z
      · exact absurd z (by omega)
set_option maxHeartbeats 4000000 in
set_option maxRecDepth 100000 in
theorem bd_X2_offerEnters : ∀ As w P K, qq_Sat ww_sh ww_ro cs_X2_offerEnters (qq_at 80 kd_X2_offerEnters) none P K → T_X2_offerEnters As w P → K 0 (lv_args 0 As) [] w := by
  intro As w P K S h
  unfold T_X2_offerEnters at h
  split at h
  · skip
    obtain ⟨⟨hP, hpr, hE⟩, hq⟩ := h
    obtain ⟨eM, hM⟩ := qn_eq hpr (by decide)
    have hN := hP.2.1
    have e10 : w.1 1 10 = nI (qn (w.1 1 10)) := hP.1
    have i13 : w.1 1 10 * 13 * 13 = nI (169 * qn (w.1 1 10)) := by
      have e : (w.1 1 10 * nI 13) * nI 13 = nI (169 * qn (w.1 1 10)) := by
        have a1 : w.1 1 10 * nI 13 = nI (13 * qn (w.1 1 10)) := by
          have := nI_ml e10 (x := 0) (i := 0) rfl (k := nI 13) rfl
          rw [Int32.add_zero] at this
          exact this
        have := nI_ml a1 (x := 0) (i := 0) rfl (k := nI 13) rfl
        rw [Int32.add_zero] at this
        rw [this]
        congr 1
        omega
      exact e
    have q13 : qn (w.1 1 10 * 13 * 13) = 169 * qn (w.1 1 10) := by rw [i13]; exact qn_nI (by omega)
    refine qq_go_ok S (fun pc => Nat.beq pc 22) 60 ?_
    conv => whnf
    refine ⟨⟨0, 169 * qn (w.1 1 10), rfl, i13, by omega, by omega⟩, fun w1 k1 => ?_⟩
    obtain ⟨⟨a1, a2⟩, a3⟩ := k1
    have a3 : ∀ q, w1.2 33 q = if qn 0 ≤ q ∧ q < qn (w.1 1 10 * 13 * 13) then 2000000000000 else w.2 33 q := a3
    rw [q13] at a3
    conv => whnf
    refine ⟨⟨10816, 0, 169 * qn (w.1 1 10), Or.inr ⟨rfl, rfl⟩, rfl, i13, by omega, by omega⟩, fun w2 k2 => ?_⟩
    obtain ⟨⟨b1, b2⟩, b3⟩ := k2
    have b3 : ∀ q, w2.1 35 q = if qn 0 ≤ q ∧ q < qn (w.1 1 10 * 13 * 13) then -1 else w1.1 35 q := b3
    rw [q13] at b3
    conv => whnf
    generalize hw3 : qq_ui w2 7 3 0 = w3
    have c2 : w3.2 = w1.2 := by rw [← hw3]; exact b1
    have co : ∀ q, q ∉ [7, 35] → w3.1 q = w.1 q := fun q hq => by
      simp only [List.mem_cons, List.not_mem_nil, or_false, not_or] at hq
      rw [← a1, ← b2 q (by simp [hq]), ← hw3]
      simp only [qq_ui, va_up, hq, if_false]
    have c7 : ∀ j, j ≠ 3 → w3.1 7 j = w.1 7 j := fun j hj => by
      rw [← a1, ← b2 7 (by simp), ← hw3]
      show upd (w2.1 7) 3 0 j = _
      rw [upd_at, if_neg hj]
    have c73 : w3.1 7 3 = nI 0 := by rw [← hw3]; rfl
    have c35 : ∀ q, q < cM w → w3.1 35 q = -1 := fun q hq => by
      have hq : q < 169 * qn (w.1 1 10) := hq
      rw [← hw3]
      show w2.1 35 q = -1
      rw [b3 q, if_pos ⟨Nat.zero_le _, hq⟩]
    have hfr : cFr w w3 := ⟨fun q hq => co q (by simp at hq ⊢; omega), c7, fun q hq => by rw [c2]; exact a2 q (by simp [hq])⟩
    refine qq_wk S (oe_22 S (w := w) (M := qn (w.1 1 9)) (N := qn (w.1 1 10)) hP hE eM (by omega) (fun w4 k4 => hq w4 (cEi_iff k4 (fun c _ => ⟨?_, ?_⟩))) (qn (w.1 1 9)) 0 (Nat.zero_add _) _ w3 rfl ⟨hfr, ⟨0, c73, ⟨by omega, by rw [cM_fr hfr]; show 169 * qn (w.1 1 10) ≤ _; omega, fun i hi => absurd hi (by omega), fun c hc => Or.inl (c35 c (by rw [cM_fr hfr] at hc; exact hc))⟩, fun i _ hi => absurd hi (by omega)⟩, fun c hc => Or.inr ⟨?_, ?_, fun t => t (c35 c hc)⟩⟩) ⟨rfl, rfl, trivial⟩
    · rintro ⟨p, l, d, z1, z2, z3, z4, z5, z6⟩
      exact ⟨l, d, by omega, ⟨z4, ⟨p, z1, z3⟩, z5⟩, z6⟩
    · rintro ⟨n, d, z1, ⟨z2, ⟨p, z3, z4⟩, z5⟩, z6⟩
      obtain ⟨l, hl, el, -⟩ := hE.1 p z3
      have : n = l := (nI_eq (by omega) (by omega)).mp (z4.symm.trans el)
      subst this
      exact ⟨p, n, d, z3, hl, z4, z2, z5, z6⟩
    · rintro ⟨p, l, d, z1, -⟩
      exact absurd z1 (by omega)
    · have hc : c < 169 * qn (w.1 1 10) := hc
      rw [c2, a3 c, if_pos ⟨Nat.zero_le _, hc⟩]
      rfl
  · exact h.elim
theorem ha_X2_offerEnters : ∀ As w P, T_X2_offerEnters As w P → qq_wd As ≤ 4 := by
  intro As w P h
  unfold T_X2_offerEnters at h
  split at h
  · exact Nat.le_of_ble_eq_true rfl
  · exact h.elim
theorem hv_X2_offerEnters : ∀ As w P, T_X2_offerEnters As w P → ∃ (k : Nat) (r : List Value) (fs : List Nat), As = .ref k :: r ∧ ww_sh[k]? = some (.inr (2, fs)) := by
  intro As w P h
  unfold T_X2_offerEnters at h
  split at h
  · exact ⟨_, _, _, rfl, rfl⟩
  · exact h.elim
set_option maxRecDepth 100000 in
theorem M_X2_offerEnters (l : Launch) : qq_M l ww_T ww_N vwCl ww_sh ww_ro ww_zs yX2_offerEnters cX2_offerEnters 4 none (ww_rm 3) T_X2_offerEnters := by
  refine qq_mk (host := RX7) (is := ki_X2_offerEnters) (cs := cs_X2_offerEnters) (by decide) ww_k1 wl_X2 ww_so ww_so2 kc_X2_offerEnters kv_X2_offerEnters kg_X2_offerEnters ?_ ha_X2_offerEnters bd_X2_offerEnters
  intro k i q hi hq
  match k, hi, hq with
  | 0, hi, hq => cases hi; cases hq; exact fun p e s m args below meth c D tys tC ad Q pc X hdg => qq_cV (ci := 4) X ww_gd (M_X4_clear l) kf_X4_clear.1 (Or.inl (ww_a3 (i := 185) (w := Cond.methodLink RX2 75 yX4_clear) rfl rfl)) kf_X4_clear.2.1 kf_X4_clear.2.2.1 kf_X4_clear.2.2.2 ⟨by decide, by decide, by decide +kernel⟩ rfl rfl rfl ⟨by decide, by decide⟩ ⟨Nat.le_refl _, Nat.le_refl _⟩ hv_X4_clear hdg
  | 1, hi, hq => cases hi; cases hq; exact fun p e s m args below meth c D tys tC ad Q pc X hdg => qq_cV (ci := 5) X ww_gd (M_X5_reached l) kf_X5_reached.1 (Or.inl (ww_a3 (i := 194) (w := Cond.methodLink RX2 86 yX5_reached) rfl rfl)) kf_X5_reached.2.1 kf_X5_reached.2.2.1 kf_X5_reached.2.2.2 ⟨by decide, by decide, by decide +kernel⟩ rfl rfl rfl ⟨by decide, by decide⟩ ⟨Nat.le_refl _, Nat.le_refl _⟩ hv_X5_reached hdg
  | 2, hi, hq => cases hi; cases hq; exact fun p e s m args below meth c D tys tC ad Q pc X hdg => qq_cV (ci := 2) X ww_gd (M_X2_offerAll l) kf_X2_offerAll.1 (Or.inl (ww_a3 (i := 195) (w := Cond.methodLink RX2 92 yX2_offerAll) rfl rfl)) kf_X2_offerAll.2.1 kf_X2_offerAll.2.2.1 kf_X2_offerAll.2.2.2 ⟨by decide, by decide, by decide +kernel⟩ rfl rfl rfl ⟨by decide, by decide⟩ ⟨Nat.le_refl _, Nat.le_refl _⟩ hv_X2_offerAll hdg
  | n + 3, hi, hq => simp [cs_X2_offerEnters] at hq
