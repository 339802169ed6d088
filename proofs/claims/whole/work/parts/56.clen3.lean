abbrev cs_X2_comeBack : List (Nat × qq_t) := [(3, T_X3_of), (4, T_X5_step), (2, T_X7_has), (4, T_X2_level), (2, T_X2_sum), (5, T_X2_offerAll)]
def T_X2_comeBack : qq_t := fun As w P => match As with
  | [.ref 4, .int a, .int g, .int b, .long x] => ∃ h l B, (vp_in a 64 ∧ vp_in g 13 ∧ cDj w (qn (w.1 1 10)) ∧ qn a < qn (w.1 1 10) ∧ cX w (qn a) 1 = 9 ∧ h < 13 ∧ l < 64 ∧ w.1 12 (qn (cX w (qn a) 5)) + 1 = nI l ∧ B ≤ 1000000000000 ∧ x = lN (lcap (B + 2)) ∧ cLD w l (qn g) h B ∧ b = w.1 19 (39 * qn a + 13 * 2 + h)) ∧ ∀ w', cRl w w' B (cLDc w) → (∀ d e A f, d < 13 → e < 13 → ¬ cIn w (169 * qn a + 13 * d + e) → w.2 33 (169 * qn a + 13 * d + e) = lN A → A ≤ B → bt (w.1 19 (39 * qn a + 13 * 1 + e)) (qn g) = true → bt b f = true → lq (w'.2 33 (169 * qn (cX w (qn a) 7) + 13 * d + f)) ≤ lcap (A + B + 2)) → P none w'
  | _ => False
def cBkC (w w' : qq_w) (c g B r d e : Nat) (b : Int32) : Prop := ∀ A f, ¬ cIn w (169 * c + 13 * d + e) → w.2 33 (169 * c + 13 * d + e) = lN A → A ≤ B → bt (w.1 19 (39 * c + 13 * 1 + e)) g = true → bt b f = true → lq (w'.2 33 (169 * r + 13 * d + f)) ≤ lcap (A + B + 2)
theorem cBkC_go {w w1 w2 : qq_w} {c g B r d e N v : Nat} {b : Int32} {D : Nat → Nat → Prop} (hj : cDj w N) (hr : r < N) (hd : d < 13) (hb : fs b) (h1 : cFr w w1) (hh : cBkC w w1 c g B r d e b) (h2 : cRl w1 w2 v D) : cBkC w w2 c g B r d e b := by
  intro A f z1 z2 z3 z4 z5
  have hg := fs_lt hb z5
  refine Nat.le_trans (cRl_le h2 ?_) (hh A f z1 z2 z3 z4 z5)
  rw [cM_fr h1, cM_N hj.1]
  omega
theorem cb_42 {P : Option Value → qq_w → Prop} {K : Nat → qq_L → List Value → qq_w → Prop} (S : qq_Sat ww_sh ww_ro cs_X2_comeBack (qq_at 106 kd_X2_comeBack) none P K) {w : qq_w} {a g b x6 x7 x8 : Int32} {x : Int64} {n gn h l B N r e : Nat} (hj : cDj w N) (ea : a = nI n) (hn : n < N) (h9 : cX w n 1 = 9) (hh : h < 13) (hl : l < 64) (el : w.1 12 (qn (cX w n 5)) + 1 = nI l) (hB : B ≤ 1000000000000) (ex : x = lN (lcap (B + 2))) (hD : cLD w l gn h B) (eb : b = w.1 19 (39 * n + 13 * 2 + h)) (er : cX w n 7 = nI r) (hr : r < N) (e6 : x6 = nI r) (e7 : x7 = nI e) (he : e < 13) (h8 : (x8 = 1 ∧ bt (w.1 19 (39 * n + 13 * 1 + e)) gn = true) ∨ (x8 = 0 ∧ ¬ bt (w.1 19 (39 * n + 13 * 1 + e)) gn = true)) {C : qq_w → Prop} (hC : ∀ w1 w2 v A, cFr w w1 → C w1 → cRl w1 w2 v A → C w2)
    (hk : ∀ w1, cRl w w1 B (cLDc w) → C w1 → (∀ d, d < 13 → cBkC w w1 n gn B r d e b) → K 15 [(0, .ref 4), (1, .int a), (2, .int g), (3, .int b), (4, .long x), (6, .int x6), (7, .int (x7 + 1))] [] w1) :
    ∀ m i, i + m = 13 → ∀ (x9 : Int32) (w1 : qq_w), x9 = nI i → cRl w w1 B (cLDc w) → C w1 → (∀ d, d < i → cBkC w w1 n gn B r d e b) → K 42 [(0, .ref 4), (1, .int a), (2, .int g), (3, .int b), (4, .long x), (6, .int x6), (7, .int x7), (8, .int x8), (9, .int x9)] [] w1 := by
  have hN := hj.1.2.1
  have q6 : qn x6 = r := by rw [e6]; exact qn_nI (by omega)
  have hM : cM w = 169 * N := cM_N hj.1
  have hfb : fs b := by rw [eb]; exact hj.2.1 _
  intro m
  induction m with
  | zero =>
    intro i hi x9 w1 e9 h1 hc1 h2
    have : i = 13 := by omega
    subst this
    refine qq_go_ok S (fun pc => Nat.beq pc 42 || Nat.beq pc 15) 60 ?_
    conv => whnf
    refine br_t (i_ge 13 e9 (by omega) (by omega)) ?_
    conv => whnf
    exact qq_wk S (hk w1 h1 hc1 h2) ⟨rfl, rfl, rfl, rfl, rfl, rfl, rfl, trivial⟩
  | succ m ih =>
    intro i hi x9 w1 e9 h1 hc1 h2
    have hj1 := cDj_go hj h1
    have hM1 : cM w1 = 169 * N := cM_N hj1.1
    refine qq_go_ok S (fun pc => Nat.beq pc 42 || Nat.beq pc 15) 80 ?_
    conv => whnf
    refine br_f (i_nge 13 e9 (by omega) (by omega)) ?_
    conv => whnf
    refine ⟨fun z => ?_, fun z => ?_⟩
    · have z : ¬ bt (w.1 19 (39 * n + 13 * 1 + e)) gn = true := by
        rcases h8 with ⟨y, -⟩ | ⟨-, y⟩
        · exact absurd (y.symm.trans z) (by decide)
        · exact y
      conv => whnf
      exact qq_wk S (hk w1 h1 hc1 (fun d _ A f _ _ _ y => absurd y z)) ⟨rfl, rfl, rfl, rfl, rfl, rfl, rfl, trivial⟩
    · have hin : bt (w.1 19 (39 * n + 13 * 1 + e)) gn = true := by
        rcases h8 with ⟨-, y⟩ | ⟨y, -⟩
        · exact y
        · exact absurd y z
      have ei := nI_lv ea e9 e7
      have ci := i_c ei (by omega)
      obtain ⟨A, eA, hA⟩ := hj1.2.2.2.1 (169 * n + 13 * i + e) (by rw [hM1]; omega)
      have cA : w1.2 33 ((a * 13 + x9) * 13 + x7).toNatClampNeg = lN A := by rw [ci]; exact eA
      have cU : w1.2 33 ((a * 13 + x9) * 13 + x7).toNatClampNeg = 2000000000000 ↔ A = 2000000000000 := by rw [cA]; exact lL_eq (b := 2000000000000) (by omega) (by omega)
      conv => whnf
      refine ⟨i_in 10816 ei (by omega) (by decide), ?_⟩
      conv => whnf
      refine ⟨fun z => ?_, fun z => ?_⟩
      · have z : A = 2000000000000 := cU.mp (lcmp0.mp z)
        conv => whnf
        refine qq_wk S (ih (i + 1) (by omega) _ w1 (i_s e9) h1 hc1 (fun d hd => ?_)) ⟨rfl, rfl, rfl, rfl, rfl, rfl, rfl, rfl, rfl, trivial⟩
        by_cases q : d = i
        · subst q
          intro A' f y1 y2 y3 _ _
          have := (cRl_pop h1 (by rw [hM]; omega) y1 (by rw [y2, lq_lN (by omega)]; exact y3)).1
          rw [eA, y2] at this
          have := (lL_eq (by omega) (by omega)).mp this
          omega
        · exact h2 d (by omega)
      · have hA : A ≤ 1000000000000 := by
          rcases hA with y | y
          · exact y
          · exact absurd (lcmp0.mpr (cU.mpr y)) z
        have el2 : lfar (x + w1.2 33 ((a * 13 + x9) * 13 + x7).toNatClampNeg) = lN (lcap (A + B + 2)) := by
          rw [lfar_sum ex cA (lcap_le _) hA, lcap2, show B + A + 2 = A + B + 2 by omega]
        have hlc := lcap_le (A + B + 2)
        have q9 : qn x9 = i := by rw [e9]; exact qn_nI (by omega)
        conv => whnf
        refine ⟨i_in 10816 ei (by omega) (by decide), ?_⟩
        conv => whnf
        refine ⟨⟨i_in 64 e6 (by omega) (by decide), cN_in hj1.1, by rw [cN_N hj1.1, q6]; exact hr, i_in 13 e9 (by omega) (by decide), hj1.2.2.1, hj1.2.2.2.1, lcap (A + B + 2), el2, lcap_le _⟩, fun w2 k1 k2 => ?_⟩
        have k1 : cRl w1 w2 (lq (lfar (x + w1.2 33 ((a * 13 + x9) * 13 + x7).toNatClampNeg))) (fun c L => L = lq (lfar (x + w1.2 33 ((a * 13 + x9) * 13 + x7).toNatClampNeg)) ∧ ∃ f, f < 13 ∧ bt b f = true ∧ c = 169 * qn x6 + 13 * qn x9 + f) := k1
        have k2 : ∀ f, f < 13 → bt b f = true → lq (w2.2 33 (169 * qn x6 + 13 * qn x9 + f)) ≤ lq (lfar (x + w1.2 33 ((a * 13 + x9) * 13 + x7).toNatClampNeg)) := k2
        rw [el2, lq_lN (by omega), q6, q9] at k1 k2
        have h12 : cRl w1 w2 B (cLDc w) := by
          refine cRl_mono k1 ?_ (fun c L z => ?_)
          · rcases lcap_ge (A + B + 2) with y | y <;> omega
          · obtain ⟨z1, f, z2, z3, z4⟩ := z
            subst z1
            refine ⟨r, i, f, by omega, z2, z4, ?_⟩
            have hs := hj1.2.2.2.2 (169 * n + 13 * i + e) A (by rw [hM1]; omega) eA hA
            rw [cLDc_fr h1.1] at hs
            obtain ⟨n', d', e', q1, q2, q3, q5⟩ := hs
            have : n' = n := by omega
            subst this
            have : d' = i := by omega
            subst this
            have : e' = e := by omega
            subst this
            exact LDer.thr q5 ⟨h9, el, er, hin, by rw [← eb]; exact z3⟩ hD
        conv => whnf
        refine qq_wk S (ih (i + 1) (by omega) _ w2 (i_s e9) (cRl_tr h1 h12) (hC w1 w2 _ _ h1.1 hc1 h12) (fun d hd => ?_)) ⟨rfl, rfl, rfl, rfl, rfl, rfl, rfl, rfl, rfl, trivial⟩
        by_cases q : d = i
        · subst q
          intro A' f y1 y2 y3 _ y4
          have := (cRl_pop h1 (by rw [hM]; omega) y1 (by rw [y2, lq_lN (by omega)]; exact y3)).1
          rw [eA, y2] at this
          have := (lL_eq (by omega) (by omega)).mp this
          subst this
          exact k2 f (fs_lt hfb y4) y4
        · exact cBkC_go hj hr (by omega) hfb h1.1 (h2 d (by omega)) h12
theorem cb_15 {P : Option Value → qq_w → Prop} {K : Nat → qq_L → List Value → qq_w → Prop} (S : qq_Sat ww_sh ww_ro cs_X2_comeBack (qq_at 106 kd_X2_comeBack) none P K) {w : qq_w} {a g b x6 : Int32} {x : Int64} {n gn h l B N r : Nat} (hj : cDj w N) (ea : a = nI n) (hn : n < N) (eg : g = nI gn) (hg : gn < 13) (h9 : cX w n 1 = 9) (hh : h < 13) (hl : l < 64) (el : w.1 12 (qn (cX w n 5)) + 1 = nI l) (hB : B ≤ 1000000000000) (ex : x = lN (lcap (B + 2))) (hD : cLD w l gn h B) (eb : b = w.1 19 (39 * n + 13 * 2 + h)) (er : cX w n 7 = nI r) (hr : r < N) (e6 : x6 = nI r)
    (hq : ∀ w1, cRl w w1 B (cLDc w) → (∀ d e, d < 13 → e < 13 → cBkC w w1 n gn B r d e b) → P none w1) :
    ∀ m i, i + m = 13 → ∀ (x7 : Int32) (w1 : qq_w), x7 = nI i → cRl w w1 B (cLDc w) → (∀ d e, d < 13 → e < i → cBkC w w1 n gn B r d e b) → K 15 [(0, .ref 4), (1, .int a), (2, .int g), (3, .int b), (4, .long x), (6, .int x6), (7, .int x7)] [] w1 := by
  have hN := hj.1.2.1
  have hfb : fs b := by rw [eb]; exact hj.2.1 _
  intro m
  induction m with
  | zero =>
    intro i hi x7 w1 e7 h1 h2
    have : i = 13 := by omega
    subst this
    refine qq_go_ok S (fun pc => Nat.beq pc 15) 60 ?_
    conv => whnf
    refine br_t (i_ge 13 e7 (by omega) (by omega)) ?_
    conv => whnf
    exact hq w1 h1 h2
  | succ m ih =>
    intro i hi x7 w1 e7 h1 h2
    have is1 := nI_st ea (b := 1) (p := 1) rfl e7
    have c19 : w1.1 19 ((a * 3 + 1) * 13 + x7).toNatClampNeg = w.1 19 (39 * n + 13 * 1 + i) := by rw [i_c is1 (by omega), h1.1.1 19 (by simp)]
    have hb' : (w1.1 19 ((a * 3 + 1) * 13 + x7).toNatClampNeg >>> (g &&& 31)) &&& 1 = 0 ↔ bt (w.1 19 (39 * n + 13 * 1 + i)) gn = false := by rw [c19, eg]; exact b_has (by omega) _
    have key : ∀ x8 : Int32, ((x8 = 1 ∧ bt (w.1 19 (39 * n + 13 * 1 + i)) gn = true) ∨ (x8 = 0 ∧ ¬ bt (w.1 19 (39 * n + 13 * 1 + i)) gn = true)) → K 42 [(0, .ref 4), (1, .int a), (2, .int g), (3, .int b), (4, .long x), (6, .int x6), (7, .int x7), (8, .int x8), (9, .int 0)] [] w1 := fun x8 h8 => by
      refine cb_42 S (C := fun w' => ∀ d e, d < 13 → e < i → cBkC w w' n gn B r d e b) hj ea hn h9 hh hl el hB ex hD eb er hr e6 e7 (by omega) h8 (fun w1 w2 v A f1 f2 f3 d e y1 y2 => cBkC_go hj hr y1 hfb f1 (f2 d e y1 y2) f3) (fun w2 k1 k2 k3 => ih (i + 1) (by omega) _ w2 (i_s e7) k1 (fun d e y1 y2 => ?_)) 13 0 rfl _ w1 rfl h1 h2 (fun d hd => absurd hd (by omega))
      by_cases q : e = i
      · subst q; exact k3 d y1
      · exact k2 d e y1 (by omega)
    refine qq_go_ok S (fun pc => Nat.beq pc 42) 60 ?_
    conv => whnf
    refine br_f (i_nge 13 e7 (by omega) (by omega)) ?_
    conv => whnf
    refine ⟨i_in 2496 is1 (by omega) (by decide), ?_⟩
    conv => whnf
    refine ⟨fun z => ?_, fun z => ?_⟩
    · conv => whnf
      exact qq_wk S (key 0 (Or.inr ⟨rfl, fun y => by rw [hb'.mp z] at y; cases y⟩)) ⟨rfl, rfl, rfl, rfl, rfl, rfl, rfl, rfl, rfl, trivial⟩
    · conv => whnf
      exact qq_wk S (key 1 (Or.inl ⟨rfl, bt_not (fun y => z (hb'.mpr y))⟩)) ⟨rfl, rfl, rfl, rfl, rfl, rfl, rfl, rfl, rfl, trivial⟩
set_option maxHeartbeats 4000000 in
set_option maxRecDepth 100000 in
theorem bd_X2_comeBack : ∀ As w P K, qq_Sat ww_sh ww_ro cs_X2_comeBack (qq_at 106 kd_X2_comeBack) none P K → T_X2_comeBack As w P → K 0 (lv_args 0 As) [] w := by
  intro As w P K S h
  unfold T_X2_comeBack at h
  split at h
  · rename_i a g b x
    obtain ⟨h, l, B, ⟨hp, hp2, hj, hn, h9, hh, hl, el, hB, ex, hD, eb⟩, hq⟩ := h
    obtain ⟨ea, ha⟩ := qn_eq hp (by decide)
    obtain ⟨eg, hg⟩ := qn_eq hp2 (by decide)
    have hN := hj.1.2.1
    obtain ⟨p, r, l', q1, q2, q3, q4, q5, -⟩ := hj.1.2.2.1 _ hn h9
    have i7 := nI_ml ea (x := 7) (i := 7) rfl (nI_lit 10)
    have c7 : w.1 13 (a * 10 + 7).toNatClampNeg = nI r := by rw [i_c i7 (by omega)]; exact q5
    have qr : qn (cX w (qn a) 7) = r := by rw [q5]; exact qn_nI (by omega)
    rw [qr] at hq
    refine qq_go_ok S (fun pc => Nat.beq pc 15) 60 ?_
    conv => whnf
    refine ⟨i_in 640 i7 (by omega) (by decide), ?_⟩
    conv => whnf
    exact qq_wk S (cb_15 S (w := w) (x6 := w.1 13 (a * 10 + 7).toNatClampNeg) hj ea hn eg hg h9 hh hl el hB ex hD eb q5 q2 c7 (fun w1 k1 k2 => hq w1 k1 (fun d e A f y1 y2 => k2 d e y1 y2 A f)) 13 0 rfl _ w rfl (cRl_rf hj.2.2.1) (fun d e _ y => absurd y (by omega))) ⟨rfl, rfl, rfl, rfl, rfl, rfl, rfl, trivial⟩
  · exact h.elim
theorem ha_X2_comeBack : ∀ As w P, T_X2_comeBack As w P → qq_wd As ≤ 10 := by
  intro As w P h
  unfold T_X2_comeBack at h
  split at h
  · exact Nat.le_of_ble_eq_true rfl
  · exact h.elim
theorem hv_X2_comeBack : ∀ As w P, T_X2_comeBack As w P → ∃ (k : Nat) (r : List Value) (fs : List Nat), As = .ref k :: r ∧ ww_sh[k]? = some (.inr (2, fs)) := by
  intro As w P h
  unfold T_X2_comeBack at h
  split at h
  · exact ⟨_, _, _, rfl, rfl⟩
  · exact h.elim
set_option maxRecDepth 100000 in
theorem M_X2_comeBack (l : Launch) : qq_M l ww_T ww_N vwCl ww_sh ww_ro ww_zs yX2_comeBack cX2_comeBack 10 none (ww_rm 3) T_X2_comeBack := by
  refine qq_mk (host := RX7) (is := ki_X2_comeBack) (cs := cs_X2_comeBack) (by decide) ww_k1 wl_X2 ww_so ww_so2 kc_X2_comeBack kv_X2_comeBack kg_X2_comeBack ?_ ha_X2_comeBack bd_X2_comeBack
  intro k i q hi hq
  match k, hi, hq with
  | 0, hi, hq => cases hi; cases hq; exact fun p e s m args below meth c D tys tC ad Q pc X hdg => qq_cV (ci := 3) X ww_gd (M_X3_of l) kf_X3_of.1 (Or.inl (ww_a3 (i := 220) (w := Cond.methodLink RX2 104 yX3_of) rfl rfl)) kf_X3_of.2.1 kf_X3_of.2.2.1 kf_X3_of.2.2.2 ⟨by decide, by decide, by decide +kernel⟩ rfl rfl rfl ⟨by decide, by decide⟩ ⟨Nat.le_refl _, Nat.le_refl _⟩ hv_X3_of hdg
  | 1, hi, hq => cases hi; cases hq; exact fun p e s m args below meth c D tys tC ad Q pc X hdg => qq_cV (ci := 5) X ww_gd (M_X5_step l) kf_X5_step.1 (Or.inl (ww_a3 (i := 226) (w := Cond.methodLink RX2 113 yX5_step) rfl rfl)) kf_X5_step.2.1 kf_X5_step.2.2.1 kf_X5_step.2.2.2 ⟨by decide, by decide, by decide +kernel⟩ rfl rfl rfl ⟨by decide, by decide⟩ ⟨Nat.le_refl _, Nat.le_refl _⟩ hv_X5_step hdg
  | 2, hi, hq => cases hi; cases hq; exact fun p e s m args below meth c D tys tC ad Q pc X hdg => qq_cS X ww_gd (M_X7_has l) kf_X7_has.1 (Or.inr ⟨RX7, ww_n3 (i := 199) (w := Cond.methodLinkNest RX2 96 yX7_has RX7) rfl rfl⟩) kf_X7_has.2.1 kf_X7_has.2.2 ⟨by decide, by decide, by decide +kernel⟩ rfl rfl ⟨by decide, by decide⟩ ⟨Nat.le_refl _, Nat.le_refl _⟩ hdg
  | 3, hi, hq => cases hi; cases hq; exact fun p e s m args below meth c D tys tC ad Q pc X hdg => qq_cV (ci := 2) X ww_gd (M_X2_level l) kf_X2_level.1 (Or.inl (ww_a3 (i := 227) (w := Cond.methodLink RX2 117 yX2_level) rfl rfl)) kf_X2_level.2.1 kf_X2_level.2.2.1 kf_X2_level.2.2.2 ⟨by decide, by decide, by decide +kernel⟩ rfl rfl rfl ⟨by decide, by decide⟩ ⟨Nat.le_refl _, Nat.le_refl _⟩ hv_X2_level hdg
  | 4, hi, hq => cases hi; cases hq; exact fun p e s m args below meth c D tys tC ad Q pc X hdg => qq_cS X ww_gd (M_X2_sum l) kf_X2_sum.1 (Or.inl (ww_a3 (i := 231) (w := Cond.methodLink RX2 121 yX2_sum) rfl rfl)) kf_X2_sum.2.1 kf_X2_sum.2.2 ⟨by decide, by decide, by decide +kernel⟩ rfl rfl ⟨by decide, by decide⟩ ⟨Nat.le_refl _, Nat.le_refl _⟩ hdg
  | 5, hi, hq => cases hi; cases hq; exact fun p e s m args below meth c D tys tC ad Q pc X hdg => qq_cV (ci := 2) X ww_gd (M_X2_offerAll l) kf_X2_offerAll.1 (Or.inl (ww_a3 (i := 195) (w := Cond.methodLink RX2 92 yX2_offerAll) rfl rfl)) kf_X2_offerAll.2.1 kf_X2_offerAll.2.2.1 kf_X2_offerAll.2.2.2 ⟨by decide, by decide, by decide +kernel⟩ rfl rfl rfl ⟨by decide, by decide⟩ ⟨Nat.le_refl _, Nat.le_refl _⟩ hv_X2_offerAll hdg
  | n + 6, hi, hq => simp [cs_X2_comeBack] at hq
abbrev cs_X2_goOnFromLeave : List (Nat × qq_t) := [(4, T_X2_level), (2, T_X2_sum), (3, T_X3_of), (3, T_X3_isCallOf), (4, T_X5_step), (5, T_X2_comeBack)]
/-- whose LEAVE a node is -/
def cLvO (w : qq_w) (N : Nat) : Prop := ∀ n, n < N → cX w n 1 = 1 → ∀ c, c < N → cX w c 1 = 9 → (cX w c 5 = cX w n 0 ↔ w.1 12 (qn (cX w c 5)) + 1 = nI n)
def T_X2_goOnFromLeave : qq_t := fun As w P => match As with
  | [.ref 4, .int a, .int d, .int e] => ∃ V, (vp_in a 64 ∧ vp_in d 13 ∧ vp_in e 13 ∧ cDj w (qn (w.1 1 10)) ∧ cLvO w (qn (w.1 1 10)) ∧ qn a < qn (w.1 1 10) ∧ cX w (qn a) 1 = 1 ∧ w.2 33 (169 * qn a + 13 * qn d + qn e) = lN V ∧ V ≤ 1000000000000 ∧ ¬ cIn w (169 * qn a + 13 * qn d + qn e)) ∧ ∀ w', cRl w w' V (cLDc w) → cNL w w' (qn a) (qn d) (qn e) V → P none w'
  | _ => False
def cLvC (w w' : qq_w) (n g h V c : Nat) : Prop := ∀ d e r g' a, r < 64 → d < 13 → e < 13 → cThrR w c e n g h r g' → ¬ cIn w (169 * c + 13 * d + e) → w.2 33 (169 * c + 13 * d + e) = lN a → a ≤ V → lq (w'.2 33 (169 * r + 13 * d + g')) ≤ lcap (a + V + 2)
theorem cLvC_go {w w1 w2 : qq_w} {n g h V c N v : Nat} {D : Nat → Nat → Prop} (hj : cDj w N) (hc : c < N) (h1 : cFr w w1) (hh : cLvC w w1 n g h V c) (h2 : cRl w1 w2 v D) : cLvC w w2 n g h V c := by
  intro d e r g' a z1 z2 z3 z4 z5 z6 z7
  have hN := hj.1.2.1
  have hg := fs_lt (hj.2.1 _) z4.2.2.2.2
  obtain ⟨p, r', l', q1, q2, q3, q4, q5, -⟩ := hj.1.2.2.1 _ hc z4.1
  have : r = r' := (nI_eq (by omega) (by omega)).mp (z4.2.2.1.symm.trans q5)
  refine Nat.le_trans (cRl_le h2 ?_) (hh d e r g' a z1 z2 z3 z4 z5 z6 z7)
  rw [cM_fr h1, cM_N hj.1]
  omega
theorem gl_18 {P : Option Value → qq_w → Prop} {K : Nat → qq_L → List Value → qq_w → Prop} (S : qq_Sat ww_sh ww_ro cs_X2_goOnFromLeave (qq_at 78 kd_X2_goOnFromLeave) none P K) {w : qq_w} {a d e : Int32} {x : Int64} {n dn en V N : Nat} (hj : cDj w N) (hO : cLvO w N) (ea : a = nI n) (hn : n < N) (k1' : cX w n 1 = 1) (ed : d = nI dn) (hd : dn < 13) (ee : e = nI en) (he : en < 13) (hV : V ≤ 1000000000000) (ex : x = lN (lcap (V + 2))) (hD : cLD w n dn en V)
    (hq : ∀ w1, cRl w w1 V (cLDc w) → (∀ c, c < N → cLvC w w1 n dn en V c) → P none w1) :
    ∀ m i, i + m = N → ∀ (x6 : Int32) (w1 : qq_w), x6 = nI i → cRl w w1 V (cLDc w) → (∀ c, c < i → cLvC w w1 n dn en V c) → K 18 [(0, .ref 4), (1, .int a), (2, .int d), (3, .int e), (4, .long x), (6, .int x6)] [] w1 := by
  have hN := hj.1.2.1
  have qd : qn d = dn := by rw [ed]; exact qn_nI (by omega)
  have hM : cM w = 169 * N := cM_N hj.1
  intro m
  induction m with
  | zero =>
    intro i hi x6 w1 e6 h1 h2
    have : i = N := by omega
    subst this
    have e10 : w1.1 1 10 = nI i := (cPW_fr h1.1 hj.1).1
    refine qq_go_ok S (fun pc => Nat.beq pc 18) 60 ?_
    conv => whnf
    refine br_t (i_ge' e6 e10 (by omega) (by omega)) ?_
    conv => whnf
    exact hq w1 h1 h2
  | succ m ih =>
    intro i hi x6 w1 e6 h1 h2
    have hj1 := cDj_go hj h1
    have hM1 : cM w1 = 169 * N := cM_N hj1.1
    have e10 : w1.1 1 10 = nI N := hj1.1.1
    have i0 := nI_ml ea (x := 0) (i := 0) rfl (nI_lit 10)
    have j1 := nI_ml e6 (x := 1) (i := 1) rfl (nI_lit 10)
    have j5 := nI_ml e6 (x := 5) (i := 5) rfl (nI_lit 10)
    have c0 : w1.1 13 (a * 10 + 0).toNatClampNeg = cX w n 0 := by rw [i_c i0 (by omega), h1.1.1 13 (by simp)]
    have c1 : w1.1 13 (x6 * 10 + 1).toNatClampNeg = cX w i 1 := by rw [i_c j1 (by omega), h1.1.1 13 (by simp)]
    have c5 : w1.1 13 (x6 * 10 + 5).toNatClampNeg = cX w i 5 := by rw [i_c j5 (by omega), h1.1.1 13 (by simp)]
    have q6 : qn x6 = i := by rw [e6]; exact qn_nI (by omega)
    have skip : ¬ (cX w i 1 = 9 ∧ cX w i 5 = cX w n 0) → K 18 [(0, .ref 4), (1, .int a), (2, .int d), (3, .int e), (4, .long x), (6, .int (x6 + 1))] [] w1 := fun z => by
      refine ih (i + 1) (by omega) _ w1 (i_s e6) h1 (fun c hc => ?_)
      by_cases q : c = i
      · subst q
        intro d' e' r g' a' z1 z2 z3 z4
        exact absurd ⟨z4.1, (hO n hn k1' c (by omega) z4.1).mpr z4.2.1⟩ z
      · exact h2 c (by omega)
    refine qq_go_ok S (fun pc => Nat.beq pc 18) 80 ?_
    conv => whnf
    refine br_f (i_lt' e6 e10 (by omega) (by omega)) ?_
    conv => whnf
    refine ⟨i_in 640 i0 (by omega) (by decide), ?_⟩
    conv => whnf
    refine ⟨i_in 640 j1 (by omega) (by decide), ?_⟩
    conv => whnf
    refine ⟨fun z => ?_, fun z => ?_⟩
    · have z : ¬ w1.1 13 (x6 * 10 + 1).toNatClampNeg = 9 := z
      rw [c1] at z
      conv => whnf
      refine br_t rfl ?_
      conv => whnf
      exact qq_wk S (skip fun y => z y.1) ⟨rfl, rfl, rfl, rfl, rfl, rfl, trivial⟩
    · have z : w1.1 13 (x6 * 10 + 1).toNatClampNeg = 9 := z
      rw [c1] at z
      conv => whnf
      refine ⟨i_in 640 j5 (by omega) (by decide), ?_⟩
      conv => whnf
      refine ⟨fun z2 => ?_, fun z2 => ?_⟩
      · have z2 : ¬ w1.1 13 (x6 * 10 + 5).toNatClampNeg = w1.1 13 (a * 10 + 0).toNatClampNeg := z2
        rw [c5, c0] at z2
        conv => whnf
        refine br_t rfl ?_
        conv => whnf
        exact qq_wk S (skip fun y => z2 y.2) ⟨rfl, rfl, rfl, rfl, rfl, rfl, trivial⟩
      · have z2 : w1.1 13 (x6 * 10 + 5).toNatClampNeg = w1.1 13 (a * 10 + 0).toNatClampNeg := z2
        rw [c5, c0] at z2
        have hcal := (hO n hn k1' i (by omega) z).mp z2
        obtain ⟨p, r, l', q1, q2, q3, q4, q5, -⟩ := hj.1.2.2.1 _ (show i < N by omega) z
        have is2 := nI_st e6 (b := 2) (p := 2) rfl ee
        have c19 : w1.1 19 ((x6 * 3 + 2) * 13 + e).toNatClampNeg = w1.1 19 (39 * i + 13 * 2 + en) := by rw [i_c is2 (by omega)]
        have x13 : ∀ k j, cX w1 k j = cX w k j := fun k j => by unfold cX; rw [h1.1.1 13 (by simp)]
        conv => whnf
        refine br_f (by decide) ?_
        conv => whnf
        refine ⟨i_in 2496 is2 (by omega) (by decide), ?_⟩
        conv => whnf
        refine ⟨en, n, V, ⟨i_in 64 e6 (by omega) (by decide), i_in 13 ed hd (by decide), by rw [cN_N hj1.1]; exact hj1, by rw [cN_N hj1.1, q6]; omega, by rw [q6, x13]; exact z, he, by omega, ?_, hV, ex, by rw [cLD_fr h1.1, qd]; exact hD, by rw [q6]; exact c19⟩, fun w2 k1 k2 => ?_⟩
        · rw [q6, x13, h1.1.1 12 (by simp)]; exact hcal
        rw [cLDc_fr h1.1] at k1
        have k2 : ∀ d' e' A f, d' < 13 → e' < 13 → ¬ cIn w1 (169 * qn x6 + 13 * d' + e') → w1.2 33 (169 * qn x6 + 13 * d' + e') = lN A → A ≤ V → bt (w1.1 19 (39 * qn x6 + 13 * 1 + e')) (qn d) = true → bt (w1.1 19 ((x6 * 3 + 2) * 13 + e).toNatClampNeg) f = true → lq (w2.2 33 (169 * qn (cX w1 (qn x6) 7) + 13 * d' + f)) ≤ lcap (A + V + 2) := k2
        rw [q6, qd, c19, x13, q5, qn_nI (by omega), h1.1.1 19 (by simp)] at k2
        conv => whnf
        refine qq_wk S (ih (i + 1) (by omega) _ w2 (i_s e6) (cRl_tr h1 k1) (fun c hc => ?_)) ⟨rfl, rfl, rfl, rfl, rfl, rfl, trivial⟩
        by_cases q : c = i
        · subst q
          intro d' e' r' g' a' z1 z2 z3 z4 z5 z6 z7
          have : r' = r := (nI_eq (by omega) (by omega)).mp (z4.2.2.1.symm.trans q5)
          subst this
          have hp := cRl_pop h1 (by rw [hM]; omega) z5 (by rw [z6, lq_lN (by omega)]; exact z7)
          exact k2 d' e' a' g' z2 z3 hp.2 (by rw [hp.1]; exact z6) z7 z4.2.2.2.1 z4.2.2.2.2
        · exact cLvC_go hj (by omega) h1.1 (h2 c (by omega)) k1
set_option maxHeartbeats 4000000 in
set_option maxRecDepth 100000 in
theorem bd_X2_goOnFromLeave : ∀ As w P K, qq_Sat ww_sh ww_ro cs_X2_goOnFromLeave (qq_at 78 kd_X2_goOnFromLeave) none P K → T_X2_goOnFromLeave As w P → K 0 (lv_args 0 As) [] w := by
  intro As w P K S h
  unfold T_X2_goOnFromLeave at h
  split at h
  · rename_i a d e
    obtain ⟨V, ⟨hp, hp2, hp3, hj, hO, hn, k1, eV, hV, hpop⟩, hq⟩ := h
    obtain ⟨ea, ha⟩ := qn_eq hp (by decide)
    obtain ⟨ed, hd⟩ := qn_eq hp2 (by decide)
    obtain ⟨ee, he⟩ := qn_eq hp3 (by decide)
    have hN := hj.1.2.1
    have hM : cM w = 169 * qn (w.1 1 10) := rfl
    have hD : cLD w (qn a) (qn d) (qn e) V := by
      obtain ⟨n', d', e', z1, z2, z3, z4⟩ := hj.2.2.2.2 _ V (by rw [hM]; omega) eV hV
      have : n' = qn a := by omega
      subst this
      have : d' = qn d := by omega
      subst this
      have : e' = qn e := by omega
      subst this
      exact z4
    have iL := nI_lv ea ed ee
    have cL : w.2 33 ((a * 13 + d) * 13 + e).toNatClampNeg = lN V := by rw [i_c iL (by omega)]; exact eV
    have el2 : lfar (w.2 33 ((a * 13 + d) * 13 + e).toNatClampNeg + 2) = lN (lcap (V + 2)) := lfar_sum (B := 2) cL rfl hV (by omega)
    refine qq_go_ok S (fun pc => Nat.beq pc 18) 60 ?_
    conv => whnf
    refine ⟨i_in 10816 iL (by omega) (by decide), ?_⟩
    conv => whnf
    refine qq_wk S (gl_18 S (w := w) (x := lfar (w.2 33 ((a * 13 + d) * 13 + e).toNatClampNeg + 2)) hj hO ea hn k1 ed hd ee he hV el2 hD (fun w1 j1 j2 => hq w1 j1 (fun c d' e' r g' a' y1 y2 y3 y4 y5 y6 y7 => ?_)) (qn (w.1 1 10)) 0 (Nat.zero_add _) _ w rfl (cRl_rf hj.2.2.1) (fun c hc => absurd hc (by omega))) ⟨rfl, rfl, rfl, rfl, rfl, rfl, trivial⟩
    exact j2 c y1 d' e' r g' a' y2 y3 y4 y5 y6 y7
  · exact h.elim
theorem ha_X2_goOnFromLeave : ∀ As w P, T_X2_goOnFromLeave As w P → qq_wd As ≤ 7 := by
  intro As w P h
  unfold T_X2_goOnFromLeave at h
  split at h
  · exact Nat.le_of_ble_eq_true rfl
  · exact h.elim
theorem hv_X2_goOnFromLeave : ∀ As w P, T_X2_goOnFromLeave As w P → ∃ (k : Nat) (r : List Value) (fs : List Nat), As = .ref k :: r ∧ ww_sh[k]? = some (.inr (2, fs)) := by
  intro As w P h
  unfold T_X2_goOnFromLeave at h
  split at h
  · exact ⟨_, _, _, rfl, rfl⟩
  · exact h.elim
set_option maxRecDepth 100000 in
theorem M_X2_goOnFromLeave (l : Launch) : qq_M l ww_T ww_N vwCl ww_sh ww_ro ww_zs yX2_goOnFromLeave cX2_goOnFromLeave 7 none (ww_rm 4) T_X2_goOnFromLeave := by
  refine qq_mk (host := RX7) (is := ki_X2_goOnFromLeave) (cs := cs_X2_goOnFromLeave) (by decide) ww_k1 wl_X2 ww_so ww_so2 kc_X2_goOnFromLeave kv_X2_goOnFromLeave kg_X2_goOnFromLeave ?_ ha_X2_goOnFromLeave bd_X2_goOnFromLeave
  intro k i q hi hq
  match k, hi, hq with
  | 0, hi, hq => cases hi; cases hq; exact fun p e s m args below meth c D tys tC ad Q pc X hdg => qq_cV (ci := 2) X ww_gd (M_X2_level l) kf_X2_level.1 (Or.inl (ww_a3 (i := 227) (w := Cond.methodLink RX2 117 yX2_level) rfl rfl)) kf_X2_level.2.1 kf_X2_level.2.2.1 kf_X2_level.2.2.2 ⟨by decide, by decide, by decide +kernel⟩ rfl rfl rfl ⟨by decide, by decide⟩ ⟨Nat.le_refl _, Nat.le_refl _⟩ hv_X2_level hdg
  | 1, hi, hq => cases hi; cases hq; exact fun p e s m args below meth c D tys tC ad Q pc X hdg => qq_cS X ww_gd (M_X2_sum l) kf_X2_sum.1 (Or.inl (ww_a3 (i := 231) (w := Cond.methodLink RX2 121 yX2_sum) rfl rfl)) kf_X2_sum.2.1 kf_X2_sum.2.2 ⟨by decide, by decide, by decide +kernel⟩ rfl rfl ⟨by decide, by decide⟩ ⟨Nat.le_refl _, Nat.le_refl _⟩ hdg
  | 2, hi, hq => cases hi; cases hq; exact fun p e s m args below meth c D tys tC ad Q pc X hdg => qq_cV (ci := 3) X ww_gd (M_X3_of l) kf_X3_of.1 (Or.inl (ww_a3 (i := 220) (w := Cond.methodLink RX2 104 yX3_of) rfl rfl)) kf_X3_of.2.1 kf_X3_of.2.2.1 kf_X3_of.2.2.2 ⟨by decide, by decide, by decide +kernel⟩ rfl rfl rfl ⟨by decide, by decide⟩ ⟨Nat.le_refl _, Nat.le_refl _⟩ hv_X3_of hdg
  | 3, hi, hq => cases hi; cases hq; exact fun p e s m args below meth c D tys tC ad Q pc X hdg => qq_cV (ci := 3) X ww_gd (M_X3_isCallOf l) kf_X3_isCallOf.1 (Or.inl (ww_a4 (i := 4) (w := Cond.methodLink RX2 139 yX3_isCallOf) rfl rfl)) kf_X3_isCallOf.2.1 kf_X3_isCallOf.2.2.1 kf_X3_isCallOf.2.2.2 ⟨by decide, by decide, by decide +kernel⟩ rfl rfl rfl ⟨by decide, by decide⟩ ⟨Nat.le_refl _, Nat.le_refl _⟩ hv_X3_isCallOf hdg
  | 4, hi, hq => cases hi; cases hq; exact fun p e s m args below meth c D tys tC ad Q pc X hdg => qq_cV (ci := 5) X ww_gd (M_X5_step l) kf_X5_step.1 (Or.inl (ww_a3 (i := 226) (w := Cond.methodLink RX2 113 yX5_step) rfl rfl)) kf_X5_step.2.1 kf_X5_step.2.2.1 kf_X5_step.2.2.2 ⟨by decide, by decide, by decide +kernel⟩ rfl rfl rfl ⟨by decide, by decide⟩ ⟨Nat.le_refl _, Nat.le_refl _⟩ hv_X5_step hdg
  | 5, hi, hq => cases hi; cases hq; exact fun p e s m args below meth c D tys tC ad Q pc X hdg => qq_cV (ci := 2) X ww_gd (M_X2_comeBack l) kf_X2_comeBack.1 (Or.inl (ww_a4 (i := 5) (w := Cond.methodLink RX2 142 yX2_comeBack) rfl rfl)) kf_X2_comeBack.2.1 kf_X2_comeBack.2.2.1 kf_X2_comeBack.2.2.2 ⟨by decide, by decide, by decide +kernel⟩ rfl rfl rfl ⟨by decide, by decide⟩ ⟨Nat.le_refl _, Nat.le_refl _⟩ hv_X2_comeBack hdg
  | n + 6, hi, hq => simp [cs_X2_goOnFromLeave] at hq
abbrev cs_X2_goOn : List (Nat × qq_t) := [(3, T_X3_of), (4, T_X2_goOnFromCall), (4, T_X2_goOnFromLeave), (4, T_X5_step), (4, T_X2_level), (2, T_X2_sum), (1, T_X7_lowest), (5, T_X2_offerAll)]
def T_X2_goOn : qq_t := fun As w P => match As with
  | [.ref 4, .int a, .int d, .int e] => ∃ V, (vp_in a 64 ∧ vp_in d 13 ∧ vp_in e 13 ∧ cDj w (qn (w.1 1 10)) ∧ cLvO w (qn (w.1 1 10)) ∧ qn a < qn (w.1 1 10) ∧ w.2 33 (169 * qn a + 13 * qn d + qn e) = lN V ∧ V ≤ 1000000000000 ∧ ¬ cIn w (169 * qn a + 13 * qn d + qn e)) ∧ ∀ w', cRl w w' V (cLDc w) → cNS w w' (qn a) (qn d) (qn e) V → cNC w w' (qn a) (qn d) (qn e) V → cNL w w' (qn a) (qn d) (qn e) V → P none w'
  | _ => False
theorem lg_83 {P : Option Value → qq_w → Prop} {K : Nat → qq_L → List Value → qq_w → Prop} (S : qq_Sat ww_sh ww_ro cs_X2_goOn (qq_at 127 kd_X2_goOn) none P K) {w : qq_w} {a d x5 : Int32} {x6 L : Int64} {n dn en V N : Nat} (hj : cDj w N) (hn : n < N) (ed : d = nI dn) (hd : dn < 13) (hV : V ≤ 1000000000000) (e5 : x5 = w.1 19 (39 * n + 13 * 0 + en)) (e6 : x6 = lN (lcap (V + 1))) (hL : L = w.2 17 n) (hD : cLD w n dn en V) (k1 : ¬ cX w n 1 = 1) (k9 : ¬ cX w n 1 = 9)
    (hq : ∀ w', cRl w w' V (cLDc w) → (∀ t g, lb L t = true → bt x5 g = true → lq (w'.2 33 (169 * t + 13 * dn + g)) ≤ lcap (V + 1)) → P none w') :
    ∀ m i, i + m = 64 → ∀ (x8 : Int64) (x10 : Int32) (w1 : qq_w), x10 = nI i → (∀ t, lb x8 t = true → lb L t = true) → (∀ t, t < i → lb x8 t = false) → cRl w w1 V (cLDc w) → (∀ t g, lb L t = true → ¬ lb x8 t = true → bt x5 g = true → lq (w1.2 33 (169 * t + 13 * dn + g)) ≤ lcap (V + 1)) → K 83 [(0, .ref 4), (1, .int a), (2, .int d), (5, .int x5), (6, .long x6), (8, .long x8), (10, .int x10)] [] w1 := by
  have hN := hj.1.2.1
  have hM : cM w = 169 * N := cM_N hj.1
  have qd : qn d = dn := by rw [ed]; exact qn_nI (by omega)
  have hlc := lcap_le (V + 1)
  have h5 : fs x5 := by rw [e5]; exact hj.2.1 _
  have fin : ∀ (x8 : Int64) (w1 : qq_w), (∀ t, lb x8 t = false) → cRl w w1 V (cLDc w) → (∀ t g, lb L t = true → ¬ lb x8 t = true → bt x5 g = true → lq (w1.2 33 (169 * t + 13 * dn + g)) ≤ lcap (V + 1)) → P none w1 := by
    intro x8 w1 h0 h1 h2
    exact hq w1 h1 (fun t g y1 y2 => h2 t g y1 (by rw [h0 t]; decide) y2)
  intro m
  induction m with
  | zero =>
    intro i hi x8 x10 w1 e10 hs hl h1 h2
    refine qq_go_ok S (fun pc => Nat.beq pc 83) 60 ?_
    conv => whnf
    refine br_t (i_ge 64 e10 (by omega) (by omega)) ?_
    conv => whnf
    refine fin x8 w1 (fun t => ?_) h1 h2
    rcases Nat.lt_or_ge t 64 with z | z
    · exact hl t (by omega)
    · exact lb_big z
  | succ m ih =>
    intro i hi x8 x10 w1 e10 hs hl h1 h2
    have hj1 := cDj_go hj h1
    have hM1 : cM w1 = 169 * N := cM_N hj1.1
    refine qq_go_ok S (fun pc => Nat.beq pc 83) 80 ?_
    conv => whnf
    refine br_f (i_nge 64 e10 (by omega) (by omega)) ?_
    conv => whnf
    refine ⟨fun h => ?_, fun h => ?_⟩
    · conv => whnf
      have h := lcmp0.mp h
      exact fin x8 w1 (fun t => by rw [h]; exact lb_0 t) h1 h2
    have hne : ¬ x8 = 0 := fun z => h (lcmp0.mpr z)
    conv => whnf
    refine ⟨hne, fun k hk => ?_⟩
    obtain ⟨hk64, hlow⟩ := hk
    have hkL := hs k hlow.1
    have hkN : k < N := by
      rw [hL] at hkL
      exact hj.1.2.2.2 n k hn hkL
    have qk : qn (nI k) = k := qn_nI (by omega)
    conv => whnf
    refine ⟨⟨vp_in_nI hk64 (by decide), cN_in hj1.1, by rw [cN_N hj1.1, qk]; exact hkN, i_in 13 ed hd (by decide), hj1.2.2.1, hj1.2.2.2.1, lcap (V + 1), e6, hlc⟩, fun w2 c1 c2 => ?_⟩
    rw [e6, lq_lN (by omega), qk, qd] at c1 c2
    have h12 : cRl w1 w2 V (cLDc w) := by
      refine cRl_mono c1 ?_ (fun c L' z => ?_)
      · rcases lcap_ge (V + 1) with y | y <;> omega
      · obtain ⟨z1, f, z2, z3, z4⟩ := z
        subst z1
        exact ⟨k, dn, f, hd, z2, z4, LDer.stp hD ⟨Or.inl ⟨k1, k9, by rw [← hL]; exact hkL⟩, by rw [← e5]; exact z3⟩⟩
    conv => whnf
    have hki : i ≤ k := by
      rcases Nat.lt_or_ge k i with z | z
      · have := hl k z
        rw [hlow.1] at this
        cases this
      · exact z
    refine qq_wk S (ih (i + 1) (by omega) (x8 &&& (x8 - 1)) _ w2 (i_s e10) (fun t ht => hs t ((lb_clear hlow t).mp ht).1) (fun t ht => ?_) (cRl_tr h1 h12) (fun t g y1 y2 y3 => ?_)) ⟨rfl, rfl, rfl, rfl, rfl, rfl, rfl, trivial⟩
    · cases q : lb (x8 &&& (x8 - 1)) t with
      | false => rfl
      | true =>
        have := (lb_clear hlow t).mp q
        rcases Nat.lt_or_ge t k with z | z
        · rw [hlow.2 t z] at this
          exact absurd this.1 (by decide)
        · omega
    · have hg := fs_lt h5 y3
      have ht : t < N := by rw [hL] at y1; exact hj.1.2.2.2 n t hn y1
      by_cases q : t = k
      · subst q; exact c2 g hg y3
      · refine Nat.le_trans (cRl_le h12 (by rw [hM1]; omega)) (h2 t g y1 (fun y => y2 ((lb_clear hlow t).mpr ⟨y, q⟩)) y3)
set_option maxHeartbeats 4000000 in
set_option maxRecDepth 100000 in
theorem bd_X2_goOn : ∀ As w P K, qq_Sat ww_sh ww_ro cs_X2_goOn (qq_at 127 kd_X2_goOn) none P K → T_X2_goOn As w P → K 0 (lv_args 0 As) [] w := by
  intro As w P K S h
  unfold T_X2_goOn at h
  split at h
  · rename_i a d e
    obtain ⟨V, ⟨hp, hp2, hp3, hj, hO, hn, eV, hV, hpop⟩, hq⟩ := h
    obtain ⟨ea, ha⟩ := qn_eq hp (by decide)
    obtain ⟨ed, hd⟩ := qn_eq hp2 (by decide)
    obtain ⟨ee, he⟩ := qn_eq hp3 (by decide)
    have hN := hj.1.2.1
    have hM : cM w = 169 * qn (w.1 1 10) := rfl
    have hD : cLD w (qn a) (qn d) (qn e) V := by
      obtain ⟨n', d', e', z1, z2, z3, z4⟩ := hj.2.2.2.2 _ V (by rw [hM]; omega) eV hV
      have : n' = qn a := by omega
      subst this
      have : d' = qn d := by omega
      subst this
      have : e' = qn e := by omega
      subst this
      exact z4
    have i1 := nI_ml ea (x := 1) (i := 1) rfl (nI_lit 10)
    have c1 : w.1 13 (a * 10 + 1).toNatClampNeg = cX w (qn a) 1 := by rw [i_c i1 (by omega)]
    refine qq_go_ok S (fun pc => Nat.beq pc 83) 80 ?_
    conv => whnf
    refine ⟨i_in 640 i1 (by omega) (by decide), ?_⟩
    conv => whnf
    refine ⟨fun h9 => ?_, fun h9 => ?_⟩
    · have h9 : ¬ w.1 13 (a * 10 + 1).toNatClampNeg = 9 := h9
      rw [c1] at h9
      conv => whnf
      refine ⟨fun h1 => ?_, fun h1 => ?_⟩
      · have h1 : ¬ w.1 13 (a * 10 + 1).toNatClampNeg = 1 := h1
        rw [c1] at h1
        have s0 := nI_st ea (b := 0) (p := 0) rfl ee
        have cs0 : w.1 19 ((a * 3 + 0) * 13 + e).toNatClampNeg = w.1 19 (39 * qn a + 13 * 0 + qn e) := by rw [i_c s0 (by omega)]
        have iL := nI_lv ea ed ee
        have cL : w.2 33 ((a * 13 + d) * 13 + e).toNatClampNeg = lN V := by rw [i_c iL (by omega)]; exact eV
        have el1 : lfar (w.2 33 ((a * 13 + d) * 13 + e).toNatClampNeg + 1) = lN (lcap (V + 1)) := lfar_sum (B := 1) cL rfl hV (by omega)
        conv => whnf
        refine ⟨i_in 2496 s0 (by omega) (by decide), ?_⟩
        conv => whnf
        refine ⟨i_in 10816 iL (by omega) (by decide), ?_⟩
        conv => whnf
        refine ⟨i_in 64 ea (by omega) (by decide), ?_⟩
        conv => whnf
        refine qq_wk S (lg_83 S (w := w) (n := qn a) (L := w.2 17 (qn a)) (x5 := w.1 19 ((a * 3 + 0) * 13 + e).toNatClampNeg) (x6 := lfar (w.2 33 ((a * 13 + d) * 13 + e).toNatClampNeg + 1)) hj hn ed hd hV cs0 el1 rfl hD h1 h9 (fun w' k1 k2 => hq w' k1 (fun t g y1 y2 => ?_) (fun l g h r g' b y1 y2 y3 y4 => absurd y4.1 h9) (fun c d' e' r g' a' y1 y2 y3 y4 y5 => ?_)) 64 0 rfl (w.2 17 (qn a)) _ w rfl (fun _ z => z) (fun t z => absurd z (by omega)) (cRl_rf hj.2.2.1) (fun t g y1 y2 => absurd y1 y2)) ⟨rfl, rfl, rfl, rfl, rfl, rfl, rfl, trivial⟩
        · obtain ⟨⟨-, -, z1⟩ | ⟨z, -⟩, z2⟩ := y2
          · exact k2 t g z1 (by rw [cs0]; exact z2)
          · exact absurd z h9
        · exfalso
          obtain ⟨p, r', l', q1, q2, q3, q4, q5, q6, q7, q8, q9⟩ := hj.1.2.2.1 c y1 y5.1
          have z := y5.2.1
          rw [q4, qn_nI (by omega), q6] at z
          have z' : nI l' + 1 = nI (l' + 1) := i_s rfl
          rw [z'] at z
          have : qn a = l' + 1 := (nI_eq (by omega) (by omega)).mp z.symm
          rw [this] at h1
          exact h1 q9
      · have h1 : w.1 13 (a * 10 + 1).toNatClampNeg = 1 := h1
        rw [c1] at h1
        conv => whnf
        refine ⟨V, ⟨hp, hp2, hp3, hj, hO, hn, h1, eV, hV, hpop⟩, fun w' k1 k2 => ?_⟩
        conv => whnf
        refine hq w' k1 (fun t g y1 y2 => ?_) (fun l g h r g' b y1 y2 y3 y4 => absurd y4.1 h9) k2
        obtain ⟨⟨z, -⟩ | ⟨z, -⟩, -⟩ := y2
        · exact absurd h1 z
        · exact absurd z h9
    · have h9 : w.1 13 (a * 10 + 1).toNatClampNeg = 9 := h9
      rw [c1] at h9
      conv => whnf
      refine ⟨V, ⟨hp, hp2, hp3, hj, hn, h9, eV, hV, hpop⟩, fun w' k1 k2 k3 => ?_⟩
      conv => whnf
      refine hq w' k1 k2 k3 (fun c d' e' r g' a' y1 y2 y3 y4 y5 => ?_)
      exfalso
      obtain ⟨p, r', l', q1, q2, q3, q4, q5, q6, q7, q8, q9⟩ := hj.1.2.2.1 c y1 y5.1
      have z := y5.2.1
      rw [q4, qn_nI (by omega), q6] at z
      have z' : nI l' + 1 = nI (l' + 1) := i_s rfl
      rw [z'] at z
      have : qn a = l' + 1 := (nI_eq (by omega) (by omega)).mp z.symm
      rw [this, q9] at h9
      exact absurd h9 (by decide)
  · exact h.elim
theorem ha_X2_goOn : ∀ As w P, T_X2_goOn As w P → qq_wd As ≤ 11 := by
  intro As w P h
  unfold T_X2_goOn at h
  split at h
  · exact Nat.le_of_ble_eq_true rfl
  · exact h.elim
theorem hv_X2_goOn : ∀ As w P, T_X2_goOn As w P → ∃ (k : Nat) (r : List Value) (fs : List Nat), As = .ref k :: r ∧ ww_sh[k]? = some (.inr (2, fs)) := by
  intro As w P h
  unfold T_X2_goOn at h
  split at h
  · exact ⟨_, _, _, rfl, rfl⟩
  · exact h.elim
set_option maxRecDepth 100000 in
theorem M_X2_goOn (l : Launch) : qq_M l ww_T ww_N vwCl ww_sh ww_ro ww_zs yX2_goOn cX2_goOn 11 none (ww_rm 5) T_X2_goOn := by
  refine qq_mk (host := RX7) (is := ki_X2_goOn) (cs := cs_X2_goOn) (by decide) ww_k1 wl_X2 ww_so ww_so2 kc_X2_goOn kv_X2_goOn kg_X2_goOn ?_ ha_X2_goOn bd_X2_goOn
  intro k i q hi hq
  match k, hi, hq with
  | 0, hi, hq => cases hi; cases hq; exact fun p e s m args below meth c D tys tC ad Q pc X hdg => qq_cV (ci := 3) X ww_gd (M_X3_of l) kf_X3_of.1 (Or.inl (ww_a3 (i := 220) (w := Cond.methodLink RX2 104 yX3_of) rfl rfl)) kf_X3_of.2.1 kf_X3_of.2.2.1 kf_X3_of.2.2.2 ⟨by decide, by decide, by decide +kernel⟩ rfl rfl rfl ⟨by decide, by decide⟩ ⟨Nat.le_refl _, Nat.le_refl _⟩ hv_X3_of hdg
  | 1, hi, hq => cases hi; cases hq; exact fun p e s m args below meth c D tys tC ad Q pc X hdg => qq_cV (ci := 2) X ww_gd (M_X2_goOnFromCall l) kf_X2_goOnFromCall.1 (Or.inl (ww_a3 (i := 221) (w := Cond.methodLink RX2 107 yX2_goOnFromCall) rfl rfl)) kf_X2_goOnFromCall.2.1 kf_X2_goOnFromCall.2.2.1 kf_X2_goOnFromCall.2.2.2 ⟨by decide, by decide, by decide +kernel⟩ rfl rfl rfl ⟨by decide, by decide⟩ ⟨Nat.le_refl _, Nat.le_refl _⟩ hv_X2_goOnFromCall hdg
  | 2, hi, hq => cases hi; cases hq; exact fun p e s m args below meth c D tys tC ad Q pc X hdg => qq_cV (ci := 2) X ww_gd (M_X2_goOnFromLeave l) kf_X2_goOnFromLeave.1 (Or.inl (ww_a4 (i := 0) (w := Cond.methodLink RX2 110 yX2_goOnFromLeave) rfl rfl)) kf_X2_goOnFromLeave.2.1 kf_X2_goOnFromLeave.2.2.1 kf_X2_goOnFromLeave.2.2.2 ⟨by decide, by decide, by decide +kernel⟩ rfl rfl rfl ⟨by decide, by decide⟩ ⟨Nat.le_refl _, Nat.le_refl _⟩ hv_X2_goOnFromLeave hdg
  | 3, hi, hq => cases hi; cases hq; exact fun p e s m args below meth c D tys tC ad Q pc X hdg => qq_cV (ci := 5) X ww_gd (M_X5_step l) kf_X5_step.1 (Or.inl (ww_a3 (i := 226) (w := Cond.methodLink RX2 113 yX5_step) rfl rfl)) kf_X5_step.2.1 kf_X5_step.2.2.1 kf_X5_step.2.2.2 ⟨by decide, by decide, by decide +kernel⟩ rfl rfl rfl ⟨by decide, by decide⟩ ⟨Nat.le_refl _, Nat.le_refl _⟩ hv_X5_step hdg
  | 4, hi, hq => cases hi; cases hq; exact fun p e s m args below meth c D tys tC ad Q pc X hdg => qq_cV (ci := 2) X ww_gd (M_X2_level l) kf_X2_level.1 (Or.inl (ww_a3 (i := 227) (w := Cond.methodLink RX2 117 yX2_level) rfl rfl)) kf_X2_level.2.1 kf_X2_level.2.2.1 kf_X2_level.2.2.2 ⟨by decide, by decide, by decide +kernel⟩ rfl rfl rfl ⟨by decide, by decide⟩ ⟨Nat.le_refl _, Nat.le_refl _⟩ hv_X2_level hdg
  | 5, hi, hq => cases hi; cases hq; exact fun p e s m args below meth c D tys tC ad Q pc X hdg => qq_cS X ww_gd (M_X2_sum l) kf_X2_sum.1 (Or.inl (ww_a3 (i := 231) (w := Cond.methodLink RX2 121 yX2_sum) rfl rfl)) kf_X2_sum.2.1 kf_X2_sum.2.2 ⟨by decide, by decide, by decide +kernel⟩ rfl rfl ⟨by decide, by decide⟩ ⟨Nat.le_refl _, Nat.le_refl _⟩ hdg
  | 6, hi, hq => cases hi; cases hq; exact fun p e s m args below meth c D tys tC ad Q pc X hdg => qq_cS X ww_gd (M_X7_lowest l) kf_X7_lowest.1 (Or.inr ⟨RX7, ww_n4 (i := 9) (w := Cond.methodLinkNest RX2 127 yX7_lowest RX7) rfl rfl⟩) kf_X7_lowest.2.1 kf_X7_lowest.2.2 ⟨by decide, by decide, by decide +kernel⟩ rfl rfl ⟨by decide, by decide⟩ ⟨Nat.le_refl _, Nat.le_refl _⟩ hdg
  | 7, hi, hq => cases hi; cases hq; exact fun p e s m args below meth c D tys tC ad Q pc X hdg => qq_cV (ci := 2) X ww_gd (M_X2_offerAll l) kf_X2_offerAll.1 (Or.inl (ww_a3 (i := 195) (w := Cond.methodLink RX2 92 yX2_offerAll) rfl rfl)) kf_X2_offerAll.2.1 kf_X2_offerAll.2.2.1 kf_X2_offerAll.2.2.2 ⟨by decide, by decide, by decide +kernel⟩ rfl rfl rfl ⟨by decide, by decide⟩ ⟨Nat.le_refl _, Nat.le_refl _⟩ hv_X2_offerAll hdg
  | n + 8, hi, hq => simp [cs_X2_goOn] at hq
