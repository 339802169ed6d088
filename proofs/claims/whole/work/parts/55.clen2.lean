def cDj (w : qq_w) (N : Nat) : Prop := cPW w N ∧ (∀ j, fs (w.1 19 j)) ∧ cHp w ∧ lOk (w.2 33) 2000000000000 (cM w) ∧ cSnd w (cLDc w)
theorem cDj_go {w w1 : qq_w} {N v : Nat} (h : cDj w N) (h1 : cRl w w1 v (cLDc w)) : cDj w1 N := by
  refine ⟨cPW_fr h1.1 h.1, by rw [h1.1.1 19 (by simp)]; exact h.2.1, h1.2.1, cRl_ok h1 h.2.2.2.1, ?_⟩
  rw [cLDc_fr h1.1]
  exact cSnd_go h1 h.2.2.2.2
theorem cM_N {w : qq_w} {N : Nat} (h : cPW w N) : cM w = 169 * N := by
  show 169 * qn (w.1 1 10) = _
  have := h.2.1
  rw [h.1, qn_nI (by omega)]
theorem cN_N {w : qq_w} {N : Nat} (h : cPW w N) : qn (w.1 1 10) = N := by
  have := h.2.1
  rw [h.1, qn_nI (by omega)]
theorem cN_in {w : qq_w} {N : Nat} (h : cPW w N) : vp_in (w.1 1 10) 65 := i_in 65 h.1 (by have := h.2.1; omega) (by decide)
/-- what one state's length gives -/
def cNS (w w' : qq_w) (n d e V : Nat) : Prop := ∀ t g, t < 64 → cStp w n e t g → lq (w'.2 33 (169 * t + 13 * d + g)) ≤ lcap (V + 1)
def cNC (w w' : qq_w) (n d e V : Nat) : Prop := ∀ l g h r g' b, l < 64 → r < 64 → h < 13 → cThrR w n e l g h r g' → ¬ cIn w (169 * l + 13 * g + h) → w.2 33 (169 * l + 13 * g + h) = lN b → b ≤ V → lq (w'.2 33 (169 * r + 13 * d + g')) ≤ lcap (V + b + 2)
def cNL (w w' : qq_w) (n g h V : Nat) : Prop := ∀ c d e r g' a, c < qn (w.1 1 10) → r < 64 → d < 13 → e < 13 → cThrR w c e n g h r g' → ¬ cIn w (169 * c + 13 * d + e) → w.2 33 (169 * c + 13 * d + e) = lN a → a ≤ V → lq (w'.2 33 (169 * r + 13 * d + g')) ≤ lcap (a + V + 2)
theorem lcap2 {a b : Nat} : lcap (lcap (a + 2) + b) = lcap (a + b + 2) := by
  unfold lcap
  split <;> split <;> split <;> omega
theorem lfar_sum {x y : Int64} {A B : Nat} (ex : x = lN A) (ey : y = lN B) (hA : A ≤ 1000000000000) (hB : B ≤ 1000000000000) : lfar (x + y) = lN (lcap (A + B)) := by
  rw [ex, ey, lN_add]
  exact lfar_lN (by omega)
abbrev cs_X2_goOnFromCall : List (Nat × qq_t) := [(3, T_X3_of), (2, T_X3_leaveOf), (4, T_X5_step), (4, T_X2_level), (2, T_X2_sum), (5, T_X2_offerAll), (2, T_X7_has)]
def T_X2_goOnFromCall : qq_t := fun As w P => match As with
  | [.ref 4, .int a, .int d, .int e] => ∃ V, (vp_in a 64 ∧ vp_in d 13 ∧ vp_in e 13 ∧ cDj w (qn (w.1 1 10)) ∧ qn a < qn (w.1 1 10) ∧ cX w (qn a) 1 = 9 ∧ w.2 33 (169 * qn a + 13 * qn d + qn e) = lN V ∧ V ≤ 1000000000000 ∧ ¬ cIn w (169 * qn a + 13 * qn d + qn e)) ∧ ∀ w', cRl w w' V (cLDc w) → cNS w w' (qn a) (qn d) (qn e) V → cNC w w' (qn a) (qn d) (qn e) V → P none w'
  | _ => False
def cTh (w w' : qq_w) (n d e V l r g h : Nat) : Prop := bt (w.1 19 (39 * n + 13 * 1 + e)) g = true → ∀ g' b, ¬ cIn w (169 * l + 13 * g + h) → w.2 33 (169 * l + 13 * g + h) = lN b → b ≤ V → bt (w.1 19 (39 * n + 13 * 2 + h)) g' = true → lq (w'.2 33 (169 * r + 13 * d + g')) ≤ lcap (V + b + 2)
theorem cTh_go {w w1 w2 : qq_w} {n d e V l r g h N v : Nat} {A : Nat → Nat → Prop} (hj : cDj w N) (hr : r < N) (hd : d < 13) (h1 : cFr w w1) (hh : cTh w w1 n d e V l r g h) (h2 : cRl w1 w2 v A) : cTh w w2 n d e V l r g h := by
  intro z0 g' b z1 z2 z3 z4
  have hg := fs_lt (hj.2.1 _) z4
  refine Nat.le_trans (cRl_le h2 ?_) (hh z0 g' b z1 z2 z3 z4)
  rw [cM_fr h1, cM_N hj.1]
  omega
theorem gc_98 {P : Option Value → qq_w → Prop} {K : Nat → qq_L → List Value → qq_w → Prop} (S : qq_Sat ww_sh ww_ro cs_X2_goOnFromCall (qq_at 178 kd_X2_goOnFromCall) none P K) {w : qq_w} {a d e x4 x5 x6 x9 : Int32} {x7 : Int64} {n dn en V N r l p g : Nat} (hj : cDj w N) (ea : a = nI n) (hn : n < N) (ed : d = nI dn) (hd : dn < 13) (ee : e = nI en) (he : en < 13) (hV : V ≤ 1000000000000) (hD : cLD w n dn en V) (h9 : cX w n 1 = 9) (ep : cX w n 5 = nI p) (hp : p < 8) (el : w.1 12 p = nI l) (hl : l + 1 < N) (er : cX w n 7 = nI r) (hr : r < N) (e4 : x4 = nI r) (e5 : x5 = nI (l + 1)) (e6 : x6 = w.1 19 (39 * n + 13 * 1 + en)) (e7 : x7 = lN (lcap (V + 2))) (e9 : x9 = nI g) (hg : g < 13) {C : qq_w → Prop} (hC : ∀ w1 w2 v A, cFr w w1 → C w1 → cRl w1 w2 v A → C w2)
    (hk : ∀ w1, cRl w w1 V (cLDc w) → C w1 → (∀ h, h < 13 → cTh w w1 n dn en V (l + 1) r g h) → K 88 [(0, .ref 4), (1, .int a), (2, .int d), (3, .int e), (4, .int x4), (5, .int x5), (6, .int x6), (7, .long x7), (9, .int (x9 + 1))] [] w1) :
    ∀ m i, i + m = 13 → ∀ (x10 : Int32) (w1 : qq_w), x10 = nI i → cRl w w1 V (cLDc w) → C w1 → (∀ h, h < i → cTh w w1 n dn en V (l + 1) r g h) → K 98 [(0, .ref 4), (1, .int a), (2, .int d), (3, .int e), (4, .int x4), (5, .int x5), (6, .int x6), (7, .long x7), (9, .int x9), (10, .int x10)] [] w1 := by
  have hN := hj.1.2.1
  have qd : qn d = dn := by rw [ed]; exact qn_nI (by omega)
  have q4 : qn x4 = r := by rw [e4]; exact qn_nI (by omega)
  intro m
  induction m with
  | zero =>
    intro i hi x10 w1 e10 h1 hc1 h2
    have : i = 13 := by omega
    subst this
    refine qq_go_ok S (fun pc => Nat.beq pc 98 || Nat.beq pc 88) 60 ?_
    conv => whnf
    refine br_t (i_ge 13 e10 (by omega) (by omega)) ?_
    conv => whnf
    exact qq_wk S (hk w1 h1 hc1 h2) ⟨rfl, rfl, rfl, rfl, rfl, rfl, rfl, rfl, rfl, trivial⟩
  | succ m ih =>
    intro i hi x10 w1 e10 h1 hc1 h2
    have hb' : (x6 >>> (x9 &&& 31)) &&& 1 = 0 ↔ bt x6 g = false := by rw [e9]; exact b_has (by omega) _
    have hj1 := cDj_go hj h1
    have hM1 : cM w1 = 169 * N := cM_N hj1.1
    have hM : cM w = 169 * N := cM_N hj.1
    refine qq_go_ok S (fun pc => Nat.beq pc 98 || Nat.beq pc 88) 80 ?_
    conv => whnf
    refine br_f (i_nge 13 e10 (by omega) (by omega)) ?_
    conv => whnf
    refine ⟨fun h => ?_, fun h => ?_⟩
    · have h := hb'.mp h
      rw [e6] at h
      conv => whnf
      refine br_t rfl ?_
      conv => whnf
      exact qq_wk S (hk w1 h1 hc1 (fun h' _ y => by rw [h] at y; cases y)) ⟨rfl, rfl, rfl, rfl, rfl, rfl, rfl, rfl, rfl, trivial⟩
    · have h := bt_not (fun z => h (hb'.mpr z))
      rw [e6] at h
      have ei := nI_lv e5 e9 e10
      have ci := i_c ei (by omega)
      obtain ⟨B, eB, hB⟩ := hj1.2.2.2.1 (169 * (l + 1) + 13 * g + i) (by rw [hM1]; omega)
      have cB : w1.2 33 ((x5 * 13 + x9) * 13 + x10).toNatClampNeg = lN B := by rw [ci]; exact eB
      have cU : w1.2 33 ((x5 * 13 + x9) * 13 + x10).toNatClampNeg = 2000000000000 ↔ B = 2000000000000 := by rw [cB]; exact lL_eq (b := 2000000000000) (by omega) (by omega)
      conv => whnf
      refine br_f (by decide) ?_
      conv => whnf
      refine ⟨i_in 10816 ei (by omega) (by decide), ?_⟩
      conv => whnf
      refine ⟨fun z => ?_, fun z => ?_⟩
      · have z : B = 2000000000000 := cU.mp (lcmp0.mp z)
        conv => whnf
        refine qq_wk S (ih (i + 1) (by omega) _ w1 (i_s e10) h1 hc1 (fun h' hh' => ?_)) ⟨rfl, rfl, rfl, rfl, rfl, rfl, rfl, rfl, rfl, rfl, trivial⟩
        by_cases q : h' = i
        · subst q
          intro _ g' b y1 y2 y3 _
          have := (cRl_pop h1 (by rw [hM]; omega) y1 (by rw [y2, lq_lN (by omega)]; exact y3)).1
          rw [eB, y2] at this
          have := (lL_eq (by omega) (by omega)).mp this
          omega
        · exact h2 h' (by omega)
      · have hB : B ≤ 1000000000000 := by
          rcases hB with y | y
          · exact y
          · exact absurd (lcmp0.mpr (cU.mpr y)) z
        have is2 := nI_st ea (b := 2) (p := 2) rfl e10
        have c19 : w1.1 19 ((a * 3 + 2) * 13 + x10).toNatClampNeg = w.1 19 (39 * n + 13 * 2 + i) := by rw [i_c is2 (by omega), h1.1.1 19 (by simp)]
        have el2 : lfar (x7 + w1.2 33 ((x5 * 13 + x9) * 13 + x10).toNatClampNeg) = lN (lcap (V + B + 2)) := by
          rw [lfar_sum e7 cB (lcap_le _) hB, lcap2]
        have hlc := lcap_le (V + B + 2)
        conv => whnf
        refine ⟨i_in 2496 is2 (by omega) (by decide), ?_⟩
        conv => whnf
        refine ⟨i_in 10816 ei (by omega) (by decide), ?_⟩
        conv => whnf
        refine ⟨⟨i_in 64 e4 (by omega) (by decide), cN_in hj1.1, by rw [cN_N hj1.1, q4]; exact hr, i_in 13 ed hd (by decide), hj1.2.2.1, hj1.2.2.2.1, lcap (V + B + 2), el2, lcap_le _⟩, fun w2 k1 k2 => ?_⟩
        have k1 : cRl w1 w2 (lq (lfar (x7 + w1.2 33 ((x5 * 13 + x9) * 13 + x10).toNatClampNeg))) (fun c L => L = lq (lfar (x7 + w1.2 33 ((x5 * 13 + x9) * 13 + x10).toNatClampNeg)) ∧ ∃ f, f < 13 ∧ bt (w1.1 19 ((a * 3 + 2) * 13 + x10).toNatClampNeg) f = true ∧ c = 169 * qn x4 + 13 * qn d + f) := k1
        have k2 : ∀ f, f < 13 → bt (w1.1 19 ((a * 3 + 2) * 13 + x10).toNatClampNeg) f = true → lq (w2.2 33 (169 * qn x4 + 13 * qn d + f)) ≤ lq (lfar (x7 + w1.2 33 ((x5 * 13 + x9) * 13 + x10).toNatClampNeg)) := k2
        rw [el2, lq_lN (by omega), c19, q4, qd] at k1 k2
        have h12 : cRl w1 w2 V (cLDc w) := by
          refine cRl_mono k1 ?_ (fun c L z => ?_)
          · rcases lcap_ge (V + B + 2) with y | y <;> omega
          · obtain ⟨z1, f, z2, z3, z4⟩ := z
            subst z1
            refine ⟨r, dn, f, hd, z2, z4, ?_⟩
            have hs := hj1.2.2.2.2 (169 * (l + 1) + 13 * g + i) B (by rw [hM1]; omega) eB hB
            rw [cLDc_fr h1.1] at hs
            obtain ⟨n', d', e', q1, q2, q3, q5⟩ := hs
            have : n' = l + 1 := by omega
            subst this
            have : d' = g := by omega
            subst this
            have : e' = i := by omega
            subst this
            refine LDer.thr hD ⟨h9, ?_, er, h, z3⟩ q5
            rw [ep, qn_nI (by omega), el]
            exact i_s rfl
        conv => whnf
        refine qq_wk S (ih (i + 1) (by omega) _ w2 (i_s e10) (cRl_tr h1 h12) (hC w1 w2 _ _ h1.1 hc1 h12) (fun h' hh' => ?_)) ⟨rfl, rfl, rfl, rfl, rfl, rfl, rfl, rfl, rfl, rfl, trivial⟩
        by_cases q : h' = i
        · subst q
          intro _ g' b y1 y2 y3 y4
          have := (cRl_pop h1 (by rw [hM]; omega) y1 (by rw [y2, lq_lN (by omega)]; exact y3)).1
          rw [eB, y2] at this
          have := (lL_eq (by omega) (by omega)).mp this
          subst this
          exact k2 g' (fs_lt (hj.2.1 _) y4) y4
        · exact cTh_go hj hr hd h1.1 (h2 h' (by omega)) h12
theorem gc_88 {P : Option Value → qq_w → Prop} {K : Nat → qq_L → List Value → qq_w → Prop} (S : qq_Sat ww_sh ww_ro cs_X2_goOnFromCall (qq_at 178 kd_X2_goOnFromCall) none P K) {w : qq_w} {a d e x4 x5 x6 : Int32} {x7 : Int64} {n dn en V N r l p : Nat} (hj : cDj w N) (ea : a = nI n) (hn : n < N) (ed : d = nI dn) (hd : dn < 13) (ee : e = nI en) (he : en < 13) (hV : V ≤ 1000000000000) (hD : cLD w n dn en V) (h9 : cX w n 1 = 9) (ep : cX w n 5 = nI p) (hp : p < 8) (el : w.1 12 p = nI l) (hl : l + 1 < N) (er : cX w n 7 = nI r) (hr : r < N) (e4 : x4 = nI r) (e5 : x5 = nI (l + 1)) (e6 : x6 = w.1 19 (39 * n + 13 * 1 + en)) (e7 : x7 = lN (lcap (V + 2))) {C : qq_w → Prop} (hC : ∀ w1 w2 v A, cFr w w1 → C w1 → cRl w1 w2 v A → C w2)
    (hq : ∀ w1, cRl w w1 V (cLDc w) → C w1 → (∀ g h, g < 13 → h < 13 → cTh w w1 n dn en V (l + 1) r g h) → P none w1) :
    ∀ m i, i + m = 13 → ∀ (x9 : Int32) (w1 : qq_w), x9 = nI i → cRl w w1 V (cLDc w) → C w1 → (∀ g h, g < i → h < 13 → cTh w w1 n dn en V (l + 1) r g h) → K 88 [(0, .ref 4), (1, .int a), (2, .int d), (3, .int e), (4, .int x4), (5, .int x5), (6, .int x6), (7, .long x7), (9, .int x9)] [] w1 := by
  intro m
  induction m with
  | zero =>
    intro i hi x9 w1 e9 h1 hc1 h2
    have : i = 13 := by omega
    subst this
    refine qq_go_ok S (fun pc => Nat.beq pc 88) 60 ?_
    conv => whnf
    refine br_t (i_ge 13 e9 (by omega) (by omega)) ?_
    conv => whnf
    exact hq w1 h1 hc1 h2
  | succ m ih =>
    intro i hi x9 w1 e9 h1 hc1 h2
    refine qq_go_ok S (fun pc => Nat.beq pc 98) 60 ?_
    conv => whnf
    refine br_f (i_nge 13 e9 (by omega) (by omega)) ?_
    conv => whnf
    refine qq_wk S (gc_98 S (C := fun w' => C w' ∧ ∀ g h, g < i → h < 13 → cTh w w' n dn en V (l + 1) r g h) hj ea hn ed hd ee he hV hD h9 ep hp el hl er hr e4 e5 e6 e7 e9 (by omega) (fun w1 w2 v A f1 f2 f3 => ⟨hC w1 w2 v A f1 f2.1 f3, fun g h y1 y2 => cTh_go hj hr hd f1 (f2.2 g h y1 y2) f3⟩) (fun w2 k1 k2 k3 => ih (i + 1) (by omega) _ w2 (i_s e9) k1 k2.1 (fun g h y1 y2 => ?_)) 13 0 rfl _ w1 rfl h1 ⟨hc1, h2⟩ (fun h hh => absurd hh (by omega))) ⟨rfl, rfl, rfl, rfl, rfl, rfl, rfl, rfl, rfl, rfl, trivial⟩
    by_cases q : g = i
    · subst q; exact k3 h y2
    · exact k2.2 g h (by omega) y2
set_option maxHeartbeats 4000000 in
set_option maxRecDepth 100000 in
theorem bd_X2_goOnFromCall : ∀ As w P K, qq_Sat ww_sh ww_ro cs_X2_goOnFromCall (qq_at 178 kd_X2_goOnFromCall) none P K → T_X2_goOnFromCall As w P → K 0 (lv_args 0 As) [] w := by
  intro As w P K S h
  unfold T_X2_goOnFromCall at h
  split at h
  · rename_i a d e
    obtain ⟨V, ⟨hp, hp2, hp3, hj, hn, h9, eV, hV, hpop⟩, hq⟩ := h
    obtain ⟨ea, ha⟩ := qn_eq hp (by decide)
    obtain ⟨ed, hd⟩ := qn_eq hp2 (by decide)
    obtain ⟨ee, he⟩ := qn_eq hp3 (by decide)
    have hN := hj.1.2.1
    have hM : cM w = 169 * qn (w.1 1 10) := rfl
    obtain ⟨p, r, l, q1, q2, q3, q4, q5, q6, q7, q8, q9⟩ := hj.1.2.2.1 _ hn h9
    have hD : cLD w (qn a) (qn d) (qn e) V := by
      obtain ⟨n', d', e', z1, z2, z3, z4⟩ := hj.2.2.2.2 _ V (by rw [hM]; omega) eV hV
      have : n' = qn a := by omega
      subst this
      have : d' = qn d := by omega
      subst this
      have : e' = qn e := by omega
      subst this
      exact z4
    have i7 := nI_ml ea (x := 7) (i := 7) rfl (nI_lit 10)
    have i5 := nI_ml ea (x := 5) (i := 5) rfl (nI_lit 10)
    have c7 : w.1 13 (a * 10 + 7).toNatClampNeg = nI r := by rw [i_c i7 (by omega)]; exact q5
    have c5 : w.1 13 (a * 10 + 5).toNatClampNeg = nI p := by rw [i_c i5 (by omega)]; exact q4
    have c12 : w.1 12 (w.1 13 (a * 10 + 5).toNatClampNeg).toNatClampNeg + 1 = nI (l + 1) := by rw [i_c c5 (by omega), q6]; exact i_s rfl
    have s1 := nI_st ea (b := 1) (p := 1) rfl ee
    have s0 := nI_st ea (b := 0) (p := 0) rfl ee
    have cs1 : w.1 19 ((a * 3 + 1) * 13 + e).toNatClampNeg = w.1 19 (39 * qn a + 13 * 1 + qn e) := by rw [i_c s1 (by omega)]
    have cs0 : w.1 19 ((a * 3 + 0) * 13 + e).toNatClampNeg = w.1 19 (39 * qn a + 13 * 0 + qn e) := by rw [i_c s0 (by omega)]
    have iL := nI_lv ea ed ee
    have cL : w.2 33 ((a * 13 + d) * 13 + e).toNatClampNeg = lN V := by rw [i_c iL (by omega)]; exact eV
    have el1 : lfar (w.2 33 ((a * 13 + d) * 13 + e).toNatClampNeg + 1) = lN (lcap (V + 1)) := lfar_sum (B := 1) cL rfl hV (by omega)
    have qr : qn (w.1 13 (a * 10 + 7).toNatClampNeg) = r := by rw [c7]; exact qn_nI (by omega)
    have hl1 := lcap_le (V + 1)
    refine qq_go_ok S (fun pc => Nat.beq pc 88) 80 ?_
    conv => whnf
    refine ⟨i_in 640 i7 (by omega) (by decide), ?_⟩
    conv => whnf
    refine ⟨i_in 640 i5 (by omega) (by decide), ?_⟩
    conv => whnf
    refine ⟨i_in 8 c5 (by omega) (by decide), ?_⟩
    conv => whnf
    refine ⟨i_in 2496 s1 (by omega) (by decide), ?_⟩
    conv => whnf
    refine ⟨i_in 2496 s0 (by omega) (by decide), ?_⟩
    conv => whnf
    refine ⟨i_in 10816 iL (by omega) (by decide), ?_⟩
    conv => whnf
    refine ⟨⟨i_in 64 c7 (by omega) (by decide), cN_in hj.1, by show qn (w.1 13 (a * 10 + 7).toNatClampNeg) < _; rw [qr]; exact q2, hp2, hj.2.2.1, hj.2.2.2.1, lcap (V + 1), el1, hl1⟩, fun w1 k1 k2 => ?_⟩
    have k1 : cRl w w1 (lq (lfar (w.2 33 ((a * 13 + d) * 13 + e).toNatClampNeg + 1))) (fun c L => L = lq (lfar (w.2 33 ((a * 13 + d) * 13 + e).toNatClampNeg + 1)) ∧ ∃ f, f < 13 ∧ bt (w.1 19 ((a * 3 + 0) * 13 + e).toNatClampNeg) f = true ∧ c = 169 * qn (w.1 13 (a * 10 + 7).toNatClampNeg) + 13 * qn d + f) := k1
    have k2 : ∀ f, f < 13 → bt (w.1 19 ((a * 3 + 0) * 13 + e).toNatClampNeg) f = true → lq (w1.2 33 (169 * qn (w.1 13 (a * 10 + 7).toNatClampNeg) + 13 * qn d + f)) ≤ lq (lfar (w.2 33 ((a * 13 + d) * 13 + e).toNatClampNeg + 1)) := k2
    rw [el1, lq_lN (by omega), qr, cs0] at k1 k2
    have h1 : cRl w w1 V (cLDc w) := by
      refine cRl_mono k1 ?_ (fun c L z => ?_)
      · rcases lcap_ge (V + 1) with y | y <;> omega
      · obtain ⟨z1, f, z2, z3, z4⟩ := z
        subst z1
        exact ⟨r, qn d, f, hd, z2, z4, LDer.stp hD ⟨Or.inr ⟨h9, q5⟩, z3⟩⟩
    have hpop1 := cRl_pop h1 (c := 169 * qn a + 13 * qn d + qn e) (by rw [hM]; omega) hpop (by rw [eV, lq_lN (by omega)]; exact Nat.le_refl _)
    have cL1 : w1.2 33 ((a * 13 + d) * 13 + e).toNatClampNeg = lN V := by rw [i_c iL (by omega), hpop1.1]; exact eV
    have el2 : lfar (w1.2 33 ((a * 13 + d) * 13 + e).toNatClampNeg + 2) = lN (lcap (V + 2)) := lfar_sum (B := 2) cL1 rfl hV (by omega)
    conv => whnf
    refine ⟨i_in 10816 iL (by omega) (by decide), ?_⟩
    conv => whnf
    refine qq_wk S (gc_88 S (w := w) (x4 := w.1 13 (a * 10 + 7).toNatClampNeg) (x5 := w.1 12 (w.1 13 (a * 10 + 5).toNatClampNeg).toNatClampNeg + 1) (x6 := w.1 19 ((a * 3 + 1) * 13 + e).toNatClampNeg) (x7 := lfar (w1.2 33 ((a * 13 + d) * 13 + e).toNatClampNeg + 2)) (C := fun w' => cNS w w' (qn a) (qn d) (qn e) V) hj ea hn ed hd ee he hV hD h9 q4 q1 q6 q3 q5 q2 c7 c12 cs1 el2 (fun w1 w2 v A f1 f2 f3 => ?_) (fun w' j1 j2 j3 => hq w' j1 j2 ?_) 13 0 rfl _ w1 rfl h1 ?_ (fun g h hg => absurd hg (by omega))) ⟨rfl, rfl, rfl, rfl, rfl, rfl, rfl, rfl, rfl, trivial⟩
    · intro t g ht hs
      have hg := fs_lt (hj.2.1 _) hs.2
      have htN : t = r := by
        rcases hs.1 with ⟨-, y, -⟩ | ⟨-, y⟩
        · exact absurd h9 y
        · exact (nI_eq (by omega) (by omega)).mp (y.symm.trans q5)
      exact Nat.le_trans (cRl_le f3 (by rw [cM_fr f1, hM]; omega)) (f2 t g ht hs)
    · intro l' g h r' g' b y1 y2 y3 y4 y5 y6 y7
      obtain ⟨t1, t2, t3, t4, t5⟩ := y4
      rw [q4, qn_nI (by omega), q6] at t2
      have : l' = l + 1 := by
        have : nI l + 1 = nI (l + 1) := i_s rfl
        rw [this] at t2
        exact (nI_eq (by omega) (by omega)).mp t2.symm
      subst this
      have : r' = r := (nI_eq (by omega) (by omega)).mp (t3.symm.trans q5)
      subst this
      exact j3 g h (fs_lt (hj.2.1 _) t4) y3 t4 g' b y5 y6 y7 t5
    · intro t g ht hs
      have hg := fs_lt (hj.2.1 _) hs.2
      have htN : t = r := by
        rcases hs.1 with ⟨-, y, -⟩ | ⟨-, y⟩
        · exact absurd h9 y
        · exact (nI_eq (by omega) (by omega)).mp (y.symm.trans q5)
      subst htN
      exact k2 g hg hs.2
  · exact h.elim
theorem ha_X2_goOnFromCall : ∀ As w P, T_X2_goOnFromCall As w P → qq_wd As ≤ 11 := by
  intro As w P h
  unfold T_X2_goOnFromCall at h
  split at h
  · exact Nat.le_of_ble_eq_true rfl
  · exact h.elim
theorem hv_X2_goOnFromCall : ∀ As w P, T_X2_goOnFromCall As w P → ∃ (k : Nat) (r : List Value) (fs : List Nat), As = .ref k :: r ∧ ww_sh[k]? = some (.inr (2, fs)) := by
  intro As w P h
  unfold T_X2_goOnFromCall at h
  split at h
  · exact ⟨_, _, _, rfl, rfl⟩
  · exact h.elim
set_option maxRecDepth 100000 in
theorem M_X2_goOnFromCall (l : Launch) : qq_M l ww_T ww_N vwCl ww_sh ww_ro ww_zs yX2_goOnFromCall cX2_goOnFromCall 11 none (ww_rm 3) T_X2_goOnFromCall := by
  refine qq_mk (host := RX7) (is := ki_X2_goOnFromCall) (cs := cs_X2_goOnFromCall) (by decide) ww_k1 wl_X2 ww_so ww_so2 kc_X2_goOnFromCall kv_X2_goOnFromCall kg_X2_goOnFromCall ?_ ha_X2_goOnFromCall bd_X2_goOnFromCall
  intro k i q hi hq
  match k, hi, hq with
  | 0, hi, hq => cases hi; cases hq; exact fun p e s m args below meth c D tys tC ad Q pc X hdg => qq_cV (ci := 3) X ww_gd (M_X3_of l) kf_X3_of.1 (Or.inl (ww_a3 (i := 220) (w := Cond.methodLink RX2 104 yX3_of) rfl rfl)) kf_X3_of.2.1 kf_X3_of.2.2.1 kf_X3_of.2.2.2 ⟨by decide, by decide, by decide +kernel⟩ rfl rfl rfl ⟨by decide, by decide⟩ ⟨Nat.le_refl _, Nat.le_refl _⟩ hv_X3_of hdg
  | 1, hi, hq => cases hi; cases hq; exact fun p e s m args below meth c D tys tC ad Q pc X hdg => qq_cV (ci := 3) X ww_gd (M_X3_leaveOf l) kf_X3_leaveOf.1 (Or.inl (ww_a3 (i := 225) (w := Cond.methodLink RX2 131 yX3_leaveOf) rfl rfl)) kf_X3_leaveOf.2.1 kf_X3_leaveOf.2.2.1 kf_X3_leaveOf.2.2.2 ⟨by decide, by decide, by decide +kernel⟩ rfl rfl rfl ⟨by decide, by decide⟩ ⟨Nat.le_refl _, Nat.le_refl _⟩ hv_X3_leaveOf hdg
  | 2, hi, hq => cases hi; cases hq; exact fun p e s m args below meth c D tys tC ad Q pc X hdg => qq_cV (ci := 5) X ww_gd (M_X5_step l) kf_X5_step.1 (Or.inl (ww_a3 (i := 226) (w := Cond.methodLink RX2 113 yX5_step) rfl rfl)) kf_X5_step.2.1 kf_X5_step.2.2.1 kf_X5_step.2.2.2 ⟨by decide, by decide, by decide +kernel⟩ rfl rfl rfl ⟨by decide, by decide⟩ ⟨Nat.le_refl _, Nat.le_refl _⟩ hv_X5_step hdg
  | 3, hi, hq => cases hi; cases hq; exact fun p e s m args below meth c D tys tC ad Q pc X hdg => qq_cV (ci := 2) X ww_gd (M_X2_level l) kf_X2_level.1 (Or.inl (ww_a3 (i := 227) (w := Cond.methodLink RX2 117 yX2_level) rfl rfl)) kf_X2_level.2.1 kf_X2_level.2.2.1 kf_X2_level.2.2.2 ⟨by decide, by decide, by decide +kernel⟩ rfl rfl rfl ⟨by decide, by decide⟩ ⟨Nat.le_refl _, Nat.le_refl _⟩ hv_X2_level hdg
  | 4, hi, hq => cases hi; cases hq; exact fun p e s m args below meth c D tys tC ad Q pc X hdg => qq_cS X ww_gd (M_X2_sum l) kf_X2_sum.1 (Or.inl (ww_a3 (i := 231) (w := Cond.methodLink RX2 121 yX2_sum) rfl rfl)) kf_X2_sum.2.1 kf_X2_sum.2.2 ⟨by decide, by decide, by decide +kernel⟩ rfl rfl ⟨by decide, by decide⟩ ⟨Nat.le_refl _, Nat.le_refl _⟩ hdg
  | 5, hi, hq => cases hi; cases hq; exact fun p e s m args below meth c D tys tC ad Q pc X hdg => qq_cV (ci := 2) X ww_gd (M_X2_offerAll l) kf_X2_offerAll.1 (Or.inl (ww_a3 (i := 195) (w := Cond.methodLink RX2 92 yX2_offerAll) rfl rfl)) kf_X2_offerAll.2.1 kf_X2_offerAll.2.2.1 kf_X2_offerAll.2.2.2 ⟨by decide, by decide, by decide +kernel⟩ rfl rfl rfl ⟨by decide, by decide⟩ ⟨Nat.le_refl _, Nat.le_refl _⟩ hv_X2_offerAll hdg
  | 6, hi, hq => cases hi; cases hq; exact fun p e s m args below meth c D tys tC ad Q pc X hdg => qq_cS X ww_gd (M_X7_has l) kf_X7_has.1 (Or.inr ⟨RX7, ww_n3 (i := 199) (w := Cond.methodLinkNest RX2 96 yX7_has RX7) rfl rfl⟩) kf_X7_has.2.1 kf_X7_has.2.2 ⟨by decide, by decide, by decide +kernel⟩ rfl rfl ⟨by decide, by decide⟩ ⟨Nat.le_refl _, Nat.le_refl _⟩ hdg
  | n + 7, hi, hq => simp [cs_X2_goOnFromCall] at hq
