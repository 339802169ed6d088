/-! lengths of level paths, by the class -/
def cEnt (w : qq_w) (n d : Nat) : Prop := d < 13 ∧ (∃ p, p < qn (w.1 1 9) ∧ w.1 12 p = nI n) ∧ bt (w.1 20 (13 * n + d)) d = true
def cStp (w : qq_w) (n e t g : Nat) : Prop := ((¬ cX w n 1 = 1 ∧ ¬ cX w n 1 = 9 ∧ lb (w.2 17 n) t = true) ∨ (cX w n 1 = 9 ∧ cX w n 7 = nI t)) ∧ bt (w.1 19 (39 * n + 13 * 0 + e)) g = true
def cThrR (w : qq_w) (c e l g h r g' : Nat) : Prop := cX w c 1 = 9 ∧ w.1 12 (qn (cX w c 5)) + 1 = nI l ∧ cX w c 7 = nI r ∧ bt (w.1 19 (39 * c + 13 * 1 + e)) g = true ∧ bt (w.1 19 (39 * c + 13 * 2 + h)) g' = true
abbrev cLD (w : qq_w) : Nat → Nat → Nat → Nat → Prop := LDer (cEnt w) (cStp w) (cThrR w)
def cLDc (w : qq_w) (c L : Nat) : Prop := ∃ n d e, d < 13 ∧ e < 13 ∧ c = 169 * n + 13 * d + e ∧ cLD w n d e L
def cSnd (w : qq_w) (D : Nat → Nat → Prop) : Prop := ∀ c L, c < cM w → w.2 33 c = lN L → L ≤ 1000000000000 → D c L
theorem cStp_fr {w w1 : qq_w} (h : cFr w w1) : cStp w1 = cStp w := by
  funext n e t g
  unfold cStp cX
  rw [h.1 13 (by simp), h.1 19 (by simp), h.2.2 17 (by decide)]
theorem cThrR_fr {w w1 : qq_w} (h : cFr w w1) : cThrR w1 = cThrR w := by
  funext c e l g h' r g'
  unfold cThrR cX
  rw [h.1 13 (by simp), h.1 19 (by simp), h.1 12 (by simp)]
theorem cEnt_fr {w w1 : qq_w} (h : cFr w w1) : cEnt w1 = cEnt w := by
  funext n d
  unfold cEnt
  rw [h.1 1 (by simp), h.1 12 (by simp), h.1 20 (by simp)]
theorem cLD_fr {w w1 : qq_w} (h : cFr w w1) : cLD w1 = cLD w := by
  unfold cLD
  rw [cEnt_fr h, cStp_fr h, cThrR_fr h]
theorem cLDc_fr {w w1 : qq_w} (h : cFr w w1) : cLDc w1 = cLDc w := by
  funext c L
  unfold cLDc
  rw [cLD_fr h]
theorem cM_fr {w w1 : qq_w} (h : cFr w w1) : cM w1 = cM w := by
  unfold cM
  rw [h.1 1 (by simp)]
theorem cPW_fr {w w1 : qq_w} {N : Nat} (h : cFr w w1) (hP : cPW w N) : cPW w1 N := by
  obtain ⟨a1, a2, a3, a4⟩ := hP
  refine ⟨by rw [h.1 1 (by simp)]; exact a1, a2, ?_, by rw [h.2.2 17 (by decide)]; exact a4⟩
  unfold cX at a3 ⊢
  rw [h.1 13 (by simp), h.1 12 (by simp)]
  exact a3
/-- lengths have been offered, none below 'v' -/
def cRl (w w' : qq_w) (v : Nat) (A : Nat → Nat → Prop) : Prop := cFr w w' ∧ cHp w' ∧ ∀ c, c < cM w → (w'.2 33 c = w.2 33 c ∧ (cIn w' c ↔ cIn w c)) ∨ ∃ L, v ≤ L ∧ L ≤ 1000000000000 ∧ w'.2 33 c = lN L ∧ L < lq (w.2 33 c) ∧ cIn w' c ∧ A c L
theorem cRl_rf {w : qq_w} {v : Nat} {A : Nat → Nat → Prop} (h : cHp w) : cRl w w v A := ⟨cFr_rf, h, fun _ _ => Or.inl ⟨rfl, Iff.rfl⟩⟩
theorem cRl_tr {w w1 w2 : qq_w} {v : Nat} {A : Nat → Nat → Prop} (h : cRl w w1 v A) (h2 : cRl w1 w2 v A) : cRl w w2 v A := by
  refine ⟨cFr_tr h.1 h2.1, h2.2.1, fun c hc => ?_⟩
  rcases h2.2.2 c (by rw [cM_fr h.1]; exact hc) with ⟨z1, z2⟩ | ⟨L, z1, z2, z3, z4, z5, z6⟩
  · rcases h.2.2 c hc with ⟨y1, y2⟩ | ⟨L, y1, y2, y3, y4, y5, y6⟩
    · exact Or.inl ⟨z1.trans y1, z2.trans y2⟩
    · exact Or.inr ⟨L, y1, y2, z1.trans y3, y4, z2.mpr y5, y6⟩
  · rcases h.2.2 c hc with ⟨y1, y2⟩ | ⟨L', y1, y2, y3, y4, y5, y6⟩
    · exact Or.inr ⟨L, z1, z2, z3, by rw [← y1]; exact z4, z5, z6⟩
    · refine Or.inr ⟨L, z1, z2, z3, ?_, z5, z6⟩
      rw [y3, lq_lN (by omega)] at z4
      omega
theorem cRl_mono {w w' : qq_w} {v v' : Nat} {A A' : Nat → Nat → Prop} (h : cRl w w' v A) (hv : v' ≤ v) (hA : ∀ c L, A c L → A' c L) : cRl w w' v' A' := by
  refine ⟨h.1, h.2.1, fun c hc => ?_⟩
  rcases h.2.2 c hc with z | ⟨L, z1, z2, z3, z4, z5, z6⟩
  · exact Or.inl z
  · exact Or.inr ⟨L, by omega, z2, z3, z4, z5, hA c L z6⟩
theorem cRl_le {w w' : qq_w} {v : Nat} {A : Nat → Nat → Prop} (h : cRl w w' v A) {c : Nat} (hc : c < cM w) : lq (w'.2 33 c) ≤ lq (w.2 33 c) := by
  rcases h.2.2 c hc with ⟨z, -⟩ | ⟨L, -, z2, z3, z4, -⟩
  · rw [z]; exact Nat.le_refl _
  · rw [z3, lq_lN (by omega)]; omega
theorem cRl_ok {w w' : qq_w} {v U : Nat} {A : Nat → Nat → Prop} (h : cRl w w' v A) (hO : lOk (w.2 33) U (cM w)) : lOk (w'.2 33) U (cM w') := by
  intro c hc
  rw [cM_fr h.1] at hc
  rcases h.2.2 c hc with ⟨z, -⟩ | ⟨L, -, z2, z3, -⟩
  · rw [z]; exact hO c hc
  · exact ⟨L, z3, Or.inl z2⟩
theorem cRl_pop {w w' : qq_w} {v : Nat} {A : Nat → Nat → Prop} (h : cRl w w' v A) {c : Nat} (hc : c < cM w) (hi : ¬ cIn w c) (hv : lq (w.2 33 c) ≤ v) : w'.2 33 c = w.2 33 c ∧ ¬ cIn w' c := by
  rcases h.2.2 c hc with ⟨z, z2⟩ | ⟨L, z1, z2, z3, z4, -⟩
  · exact ⟨z, fun y => hi (z2.mp y)⟩
  · omega
theorem cSnd_go {w w1 : qq_w} {v : Nat} {D : Nat → Nat → Prop} (h : cRl w w1 v D) (hs : cSnd w D) : cSnd w1 D := by
  intro c L hc e hL
  rw [cM_fr h.1] at hc
  rcases h.2.2 c hc with ⟨z, -⟩ | ⟨L', -, z2, z3, -, -, z6⟩
  · rw [z] at e; exact hs c L hc e hL
  · rw [z3] at e
    have := (lL_eq (by omega) (by omega)).mp e
    subst this
    exact z6
abbrev cs_X2_offerAll : List (Nat × qq_t) := [(2, T_X7_has), (3, T_X4_offer)]
def T_X2_offerAll : qq_t := fun As w P => match As with
  | [.ref 4, .int a, .int d, .int b, .long x] => (vp_in a 64 ∧ vp_in (w.1 1 10) 65 ∧ qn a < qn (w.1 1 10) ∧ vp_in d 13 ∧ cHp w ∧ lOk (w.2 33) 2000000000000 (cM w) ∧ ∃ X, x = lN X ∧ X ≤ 1000000000000) ∧ ∀ w', cRl w w' (lq x) (fun c L => L = lq x ∧ ∃ f, f < 13 ∧ bt b f = true ∧ c = 169 * qn a + 13 * qn d + f) → (∀ f, f < 13 → bt b f = true → lq (w'.2 33 (169 * qn a + 13 * qn d + f)) ≤ lq x) → P none w'
  | _ => False
theorem oa_3 {P : Option Value → qq_w → Prop} {K : Nat → qq_L → List Value → qq_w → Prop} (S : qq_Sat ww_sh ww_ro cs_X2_offerAll (qq_at 47 kd_X2_offerAll) none P K) {w : qq_w} {a d b : Int32} {x : Int64} {n dn X : Nat} (ea : a = nI n) (hn : n < qn (w.1 1 10)) (hN : qn (w.1 1 10) ≤ 64) (ed : d = nI dn) (hd : dn < 13) (ex : x = lN X) (hX : X ≤ 1000000000000) (hO : lOk (w.2 33) 2000000000000 (cM w))
    (hq : ∀ w', cRl w w' X (fun c L => L = X ∧ ∃ f, f < 13 ∧ bt b f = true ∧ c = 169 * n + 13 * dn + f) → (∀ f, f < 13 → bt b f = true → lq (w'.2 33 (169 * n + 13 * dn + f)) ≤ X) → P none w') :
    ∀ m i, i + m = 13 → ∀ (x6 : Int32) (w1 : qq_w), x6 = nI i → cRl w w1 X (fun c L => L = X ∧ ∃ f, f < 13 ∧ bt b f = true ∧ c = 169 * n + 13 * dn + f) → (∀ f, f < i → bt b f = true → lq (w1.2 33 (169 * n + 13 * dn + f)) ≤ X) → K 3 [(0, .ref 4), (1, .int a), (2, .int d), (3, .int b), (4, .long x), (6, .int x6)] [] w1 := by
  have hcM : ∀ f, f < 13 → 169 * n + 13 * dn + f < cM w := fun f hf => by show _ < 169 * qn (w.1 1 10); omega
  have hM : cM w ≤ 10816 := by show 169 * qn (w.1 1 10) ≤ _; omega
  intro m
  induction m with
  | zero =>
    intro i hi x6 w1 e6 h1 h2
    have : i = 13 := by omega
    subst this
    refine qq_go_ok S (fun pc => Nat.beq pc 3) 60 ?_
    conv => whnf
    refine br_t (i_ge 13 e6 (by omega) (by omega)) ?_
    conv => whnf
    exact hq w1 h1 h2
  | succ m ih =>
    intro i hi x6 w1 e6 h1 h2
    have hb' : (b >>> (x6 &&& 31)) &&& 1 = 0 ↔ bt b i = false := by rw [e6]; exact b_has (by omega) _
    refine qq_go_ok S (fun pc => Nat.beq pc 3) 60 ?_
    conv => whnf
    refine br_f (i_nge 13 e6 (by omega) (by omega)) ?_
    conv => whnf
    refine ⟨fun h => ?_, fun h => ?_⟩
    · have h := hb'.mp h
      conv => whnf
      refine br_t rfl ?_
      conv => whnf
      refine qq_wk S (ih (i + 1) (by omega) _ w1 (i_s e6) h1 (fun f hf y => ?_)) ⟨rfl, rfl, rfl, rfl, rfl, rfl, trivial⟩
      by_cases q : f = i
      · subst q; rw [h] at y; cases y
      · exact h2 f (by omega) y
    · have h := bt_not (fun z => h (hb'.mpr z))
      have e := nI_lv ea ed e6
      have qc : qn ((a * 13 + d) * 13 + x6) = 169 * n + 13 * dn + i := by rw [e]; exact qn_nI (by have := hcM i (by omega); omega)
      have hc := hcM i (by omega)
      have hM1 := cM_fr h1.1
      obtain ⟨Y, eY, hY⟩ := cRl_ok h1 hO (169 * n + 13 * dn + i) (by rw [hM1]; exact hc)
      conv => whnf
      refine br_f (by decide) ?_
      conv => whnf
      refine ⟨⟨i_in 10816 e (by omega) (by decide), by rw [qc, hM1]; exact hc, h1.2.1, cRl_ok h1 hO, X, ex, hX⟩, fun z => ?_, fun z => ?_⟩
      · have z : ¬ x < w1.2 33 (qn ((a * 13 + d) * 13 + x6)) := z
        rw [qc, eY, ex, lL_lt (by omega) (by omega)] at z
        conv => whnf
        refine qq_wk S (ih (i + 1) (by omega) _ w1 (i_s e6) h1 (fun f hf y => ?_)) ⟨rfl, rfl, rfl, rfl, rfl, rfl, trivial⟩
        by_cases q : f = i
        · subst q; rw [eY, lq_lN (by omega)]; omega
        · exact h2 f (by omega) y
      · have z : x < w1.2 33 (qn ((a * 13 + d) * 13 + x6)) := z
        rw [qc, eY, ex, lL_lt (by omega) (by omega)] at z
        intro w2 k1 k2 k3 k4
        have k3 : w2.2 33 = vp_updL (w1.2 33) (qn ((a * 13 + d) * 13 + x6)) x := k3
        have k4 : ∀ z, z < cM w1 → (cIn w2 z ↔ cIn w1 z ∨ z = qn ((a * 13 + d) * 13 + x6)) := k4
        rw [qc] at k3 k4
        have eL : ∀ c, w2.2 33 c = if c = 169 * n + 13 * dn + i then x else w1.2 33 c := fun c => by rw [k3]; exact updL_at _ _ _ _
        have h12 : cRl w1 w2 X (fun c L => L = X ∧ ∃ f, f < 13 ∧ bt b f = true ∧ c = 169 * n + 13 * dn + f) := by
          refine ⟨k1, k2, fun c hc => ?_⟩
          by_cases q : c = 169 * n + 13 * dn + i
          · refine Or.inr ⟨X, Nat.le_refl _, hX, by rw [eL, if_pos q]; exact ex, ?_, (k4 c hc).mpr (Or.inr q), rfl, i, by omega, h, q⟩
            rw [q, eY, lq_lN (by omega)]
            exact z
          · exact Or.inl ⟨by rw [eL, if_neg q], (k4 c hc).trans ⟨fun t => t.elim id (fun u => absurd u q), Or.inl⟩⟩
        conv => whnf
        refine qq_wk S (ih (i + 1) (by omega) _ w2 (i_s e6) (cRl_tr h1 h12) (fun f hf y => ?_)) ⟨rfl, rfl, rfl, rfl, rfl, rfl, trivial⟩
        by_cases q : f = i
        · subst q; rw [eL, if_pos rfl, ex, lq_lN (by omega)]; exact Nat.le_refl _
        · exact Nat.le_trans (cRl_le h12 (by rw [hM1]; exact hcM f (by omega))) (h2 f (by omega) y)
set_option maxHeartbeats 4000000 in
set_option maxRecDepth 100000 in
theorem bd_X2_offerAll : ∀ As w P K, qq_Sat ww_sh ww_ro cs_X2_offerAll (qq_at 47 kd_X2_offerAll) none P K → T_X2_offerAll As w P → K 0 (lv_args 0 As) [] w := by
  intro As w P K S h
  unfold T_X2_offerAll at h
  split at h
  · rename_i a d b x
    obtain ⟨⟨hp, hpN, hn, hp2, hH, hO, X, ex, hX⟩, hq⟩ := h
    obtain ⟨ea, ha⟩ := qn_eq hp (by decide)
    obtain ⟨ed, hd⟩ := qn_eq hp2 (by decide)
    have hN := (qn_eq hpN (by decide)).2
    have eq : lq x = X := by rw [ex]; exact lq_lN (by omega)
    rw [eq] at hq
    refine qq_go_ok S (fun pc => Nat.beq pc 3) 60 ?_
    conv => whnf
    exact qq_wk S (oa_3 S ea hn (by omega) ed hd ex hX hO hq 13 0 rfl _ w rfl (cRl_rf hH) (fun f hf => absurd hf (by omega))) ⟨rfl, rfl, rfl, rfl, rfl, rfl, trivial⟩
  · exact h.elim
theorem ha_X2_offerAll : ∀ As w P, T_X2_offerAll As w P → qq_wd As ≤ 7 := by
  intro As w P h
  unfold T_X2_offerAll at h
  split at h
  · exact Nat.le_of_ble_eq_true rfl
  · exact h.elim
theorem hv_X2_offerAll : ∀ As w P, T_X2_offerAll As w P → ∃ (k : Nat) (r : List Value) (fs : List Nat), As = .ref k :: r ∧ ww_sh[k]? = some (.inr (2, fs)) := by
  intro As w P h
  unfold T_X2_offerAll at h
  split at h
  · exact ⟨_, _, _, rfl, rfl⟩
  · exact h.elim
set_option maxRecDepth 100000 in
theorem M_X2_offerAll (l : Launch) : qq_M l ww_T ww_N vwCl ww_sh ww_ro ww_zs yX2_offerAll cX2_offerAll 7 none (ww_rm 2) T_X2_offerAll := by
  refine qq_mk (host := RX7) (is := ki_X2_offerAll) (cs := cs_X2_offerAll) (by decide) ww_k1 wl_X2 ww_so ww_so2 kc_X2_offerAll kv_X2_offerAll kg_X2_offerAll ?_ ha_X2_offerAll bd_X2_offerAll
  intro k i q hi hq
  match k, hi, hq with
  | 0, hi, hq => cases hi; cases hq; exact fun p e s m args below meth c D tys tC ad Q pc X hdg => qq_cS X ww_gd (M_X7_has l) kf_X7_has.1 (Or.inr ⟨RX7, ww_n3 (i := 199) (w := Cond.methodLinkNest RX2 96 yX7_has RX7) rfl rfl⟩) kf_X7_has.2.1 kf_X7_has.2.2 ⟨by decide, by decide, by decide +kernel⟩ rfl rfl ⟨by decide, by decide⟩ ⟨Nat.le_refl _, Nat.le_refl _⟩ hdg
  | 1, hi, hq => cases hi; cases hq; exact fun p e s m args below meth c D tys tC ad Q pc X hdg => qq_cV (ci := 4) X ww_gd (M_X4_offer l) kf_X4_offer.1 (Or.inl (ww_a3 (i := 200) (w := Cond.methodLink RX2 100 yX4_offer) rfl rfl)) kf_X4_offer.2.1 kf_X4_offer.2.2.1 kf_X4_offer.2.2.2 ⟨by decide, by decide, by decide +kernel⟩ rfl rfl rfl ⟨by decide, by decide⟩ ⟨Nat.le_refl _, Nat.le_refl _⟩ hv_X4_offer hdg
  | n + 2, hi, hq => simp [cs_X2_offerAll] at hq
