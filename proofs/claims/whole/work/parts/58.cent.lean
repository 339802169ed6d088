/-! lengths of valid paths, by the class -/
def cBg (w : qq_w) (n f : Nat) : Prop := f < 13 ∧ w.1 12 0 = nI n ∧ bt (cBegin w) f = true
def cLvK (w : qq_w) (N n d f b : Nat) : Prop := n < N ∧ d < 13 ∧ f < 13 ∧ w.2 33 (169 * n + 13 * d + f) = lN b ∧ b ≤ 1000000000000
def cPr (w : qq_w) (n m : Nat) : Prop := w.1 12 (qn (cX w n 0)) = nI m
def cGoI (w : qq_w) (c f m g : Nat) : Prop := cX w c 1 = 9 ∧ w.1 12 (qn (cX w c 5)) = nI m ∧ bt (w.1 19 (39 * c + 13 * 1 + f)) g = true
abbrev cWD (w : qq_w) (N : Nat) : Nat → Nat → Nat → Prop := WDer (cBg w) (cLvK w N) (cPr w) (cGoI w)
def cEDc (w : qq_w) (N c L : Nat) : Prop := ∃ m, m < N ∧ w.1 12 (c / 13) = nI m ∧ cWD w N m (c % 13) L
/-- shorter entries have been told, none below 'v' -/
def eRl (w w' : qq_w) (M v : Nat) (A : Nat → Nat → Prop) : Prop := w'.1 = w.1 ∧ (∀ q, q ≠ 22 → w'.2 q = w.2 q) ∧ ∀ c, c < 13 * M → w'.2 22 c = w.2 22 c ∨ ∃ L, v ≤ L ∧ L ≤ 1000000000000 ∧ w'.2 22 c = lN L ∧ L < lq (w.2 22 c) ∧ A c L
theorem eRl_rf {w : qq_w} {M v : Nat} {A : Nat → Nat → Prop} : eRl w w M v A := ⟨rfl, fun _ _ => rfl, fun _ _ => Or.inl rfl⟩
theorem eRl_tr {w w1 w2 : qq_w} {M v : Nat} {A : Nat → Nat → Prop} (h : eRl w w1 M v A) (h2 : eRl w1 w2 M v A) : eRl w w2 M v A := by
  refine ⟨h2.1.trans h.1, fun q hq => (h2.2.1 q hq).trans (h.2.1 q hq), fun c hc => ?_⟩
  rcases h2.2.2 c hc with z1 | ⟨L, z1, z2, z3, z4, z6⟩
  · rcases h.2.2 c hc with y1 | ⟨L, y1, y2, y3, y4, y6⟩
    · exact Or.inl (z1.trans y1)
    · exact Or.inr ⟨L, y1, y2, z1.trans y3, y4, y6⟩
  · rcases h.2.2 c hc with y1 | ⟨L', y1, y2, y3, y4, y6⟩
    · exact Or.inr ⟨L, z1, z2, z3, by rw [← y1]; exact z4, z6⟩
    · refine Or.inr ⟨L, z1, z2, z3, ?_, z6⟩
      rw [y3, lq_lN (by omega)] at z4
      omega
theorem eRl_mono {w w' : qq_w} {M v v' : Nat} {A A' : Nat → Nat → Prop} (h : eRl w w' M v A) (hv : v' ≤ v) (hA : ∀ c L, c < 13 * M → A c L → A' c L) : eRl w w' M v' A' := by
  refine ⟨h.1, h.2.1, fun c hc => ?_⟩
  rcases h.2.2 c hc with z | ⟨L, z1, z2, z3, z4, z6⟩
  · exact Or.inl z
  · exact Or.inr ⟨L, by omega, z2, z3, z4, hA c L hc z6⟩
theorem eRl_le {w w' : qq_w} {M v : Nat} {A : Nat → Nat → Prop} (h : eRl w w' M v A) {c : Nat} (hc : c < 13 * M) : lq (w'.2 22 c) ≤ lq (w.2 22 c) := by
  rcases h.2.2 c hc with z | ⟨L, -, z2, z3, z4, -⟩
  · rw [z]; exact Nat.le_refl _
  · rw [z3, lq_lN (by omega)]; omega
theorem eRl_ok {w w' : qq_w} {M v U : Nat} {A : Nat → Nat → Prop} (h : eRl w w' M v A) (hO : lOk (w.2 22) U (13 * M)) : lOk (w'.2 22) U (13 * M) := by
  intro c hc
  rcases h.2.2 c hc with z | ⟨L, -, z2, z3, -⟩
  · rw [z]; exact hO c hc
  · exact ⟨L, z3, Or.inl z2⟩
theorem eRl_pop {w w' : qq_w} {M v : Nat} {A : Nat → Nat → Prop} (h : eRl w w' M v A) {c : Nat} (hc : c < 13 * M) (hv : lq (w.2 22 c) ≤ v) : w'.2 22 c = w.2 22 c := by
  rcases h.2.2 c hc with z | ⟨L, z1, z2, z3, z4, -⟩
  · exact z
  · omega
abbrev cs_X2_offerEntries : List (Nat × qq_t) := [(2, T_X7_has), (3, T_X2_entry)]
def T_X2_offerEntries : qq_t := fun As w P => match As with
  | [.ref 4, .int p, .int b, .long x] => ∃ X, (vp_in p 8 ∧ qn p < qn (w.1 1 9) ∧ lOk (w.2 22) 2000000000000 (13 * qn (w.1 1 9)) ∧ x = lN X ∧ X ≤ 1000000000000) ∧ ∀ w', eRl w w' (qn (w.1 1 9)) X (fun c L => L = X ∧ ∃ f, f < 13 ∧ bt b f = true ∧ c = 13 * qn p + f) → (∀ f, f < 13 → bt b f = true → lq (w'.2 22 (13 * qn p + f)) ≤ X) → P none w'
  | _ => False
theorem on_3 {P : Option Value → qq_w → Prop} {K : Nat → qq_L → List Value → qq_w → Prop} (S : qq_Sat ww_sh ww_ro cs_X2_offerEntries (qq_at 51 kd_X2_offerEntries) none P K) {w : qq_w} {p b : Int32} {x : Int64} {n M X : Nat} (ea : p = nI n) (hn : n < M) (hn8 : n < 8) (ex : x = lN X) (hX : X ≤ 1000000000000) (hO : lOk (w.2 22) 2000000000000 (13 * M))
    (hq : ∀ w', eRl w w' M X (fun c L => L = X ∧ ∃ f, f < 13 ∧ bt b f = true ∧ c = 13 * n + f) → (∀ f, f < 13 → bt b f = true → lq (w'.2 22 (13 * n + f)) ≤ X) → P none w') :
    ∀ m i, i + m = 13 → ∀ (x5 : Int32) (w1 : qq_w), x5 = nI i → eRl w w1 M X (fun c L => L = X ∧ ∃ f, f < 13 ∧ bt b f = true ∧ c = 13 * n + f) → (∀ f, f < i → bt b f = true → lq (w1.2 22 (13 * n + f)) ≤ X) → K 3 [(0, .ref 4), (1, .int p), (2, .int b), (3, .long x), (5, .int x5)] [] w1 := by
  intro m
  induction m with
  | zero =>
    intro i hi x5 w1 e5 h1 h2
    have : i = 13 := by omega
    subst this
    refine qq_go_ok S (fun pc => Nat.beq pc 3) 60 ?_
    conv => whnf
    refine br_t (i_ge 13 e5 (by omega) (by omega)) ?_
    conv => whnf
    exact hq w1 h1 h2
  | succ m ih =>
    intro i hi x5 w1 e5 h1 h2
    have hb' : (b >>> (x5 &&& 31)) &&& 1 = 0 ↔ bt b i = false := by rw [e5]; exact b_has (by omega) _
    refine qq_go_ok S (fun pc => Nat.beq pc 3) 60 ?_
    conv => whnf
    refine br_f (i_nge 13 e5 (by omega) (by omega)) ?_
    conv => whnf
    refine ⟨fun h => ?_, fun h => ?_⟩
    · have h := hb'.mp h
      conv => whnf
      refine br_t rfl ?_
      conv => whnf
      refine qq_wk S (ih (i + 1) (by omega) _ w1 (i_s e5) h1 (fun f hf y => ?_)) ⟨rfl, rfl, rfl, rfl, rfl, trivial⟩
      by_cases q : f = i
      · subst q; rw [h] at y; cases y
      · exact h2 f (by omega) y
    · have h := bt_not (fun z => h (hb'.mpr z))
      have e : p * 13 + x5 = nI (13 * n + i) := nI_ml ea e5 (nI_lit 13)
      have ce := i_c e (by omega)
      obtain ⟨Y, eY, hY⟩ := eRl_ok h1 hO (13 * n + i) (by omega)
      have cv : w1.2 22 (p * 13 + x5).toNatClampNeg = lN Y := by rw [ce]; exact eY
      have hlt : x < w1.2 22 (p * 13 + x5).toNatClampNeg ↔ X < Y := by rw [cv, ex]; exact lL_lt (by omega) (by omega)
      conv => whnf
      refine br_f (by decide) ?_
      conv => whnf
      refine ⟨i_in 104 e (by omega) (by decide), ?_⟩
      conv => whnf
      refine ⟨fun z => ?_, fun z => ?_⟩
      · have z : ¬ X < Y := fun y => lcmp_ge.mp z (hlt.mpr y)
        conv => whnf
        refine qq_wk S (ih (i + 1) (by omega) _ w1 (i_s e5) h1 (fun f hf y => ?_)) ⟨rfl, rfl, rfl, rfl, rfl, trivial⟩
        by_cases q : f = i
        · subst q; rw [eY, lq_lN (by omega)]; omega
        · exact h2 f (by omega) y
      · have z : X < Y := by
          by_cases y : X < Y
          · exact y
          · exact absurd (lcmp_ge.mpr (fun t => y (hlt.mp t))) z
        conv => whnf
        refine ⟨i_in 104 e (by omega) (by decide), ?_⟩
        conv => whnf
        generalize hw2 : qq_ul w1 22 (p * 13 + x5).toNatClampNeg x = w2
        have eL : ∀ c, w2.2 22 c = if c = 13 * n + i then x else w1.2 22 c := fun c => by
          rw [← hw2]
          show vp_updL (w1.2 22) (p * 13 + x5).toNatClampNeg x c = _
          rw [ce]; exact updL_at _ _ _ _
        have h12 : eRl w1 w2 M X (fun c L => L = X ∧ ∃ f, f < 13 ∧ bt b f = true ∧ c = 13 * n + f) := by
          refine ⟨by rw [← hw2]; rfl, fun q hq => ?_, fun c hc => ?_⟩
          · rw [← hw2]
            show va_up w1.2 22 _ q = _
            simp only [va_up, hq, if_false]
          · by_cases q : c = 13 * n + i
            · refine Or.inr ⟨X, Nat.le_refl _, hX, by rw [eL, if_pos q]; exact ex, ?_, rfl, i, by omega, h, q⟩
              rw [q, eY, lq_lN (by omega)]
              exact z
            · exact Or.inl (by rw [eL, if_neg q])
        refine qq_wk S (ih (i + 1) (by omega) _ w2 (i_s e5) (eRl_tr h1 h12) (fun f hf y => ?_)) ⟨rfl, rfl, rfl, rfl, rfl, trivial⟩
        by_cases q : f = i
        · subst q; rw [eL, if_pos rfl, ex, lq_lN (by omega)]; exact Nat.le_refl _
        · exact Nat.le_trans (eRl_le h12 (by omega)) (h2 f (by omega) y)
set_option maxHeartbeats 4000000 in
set_option maxRecDepth 100000 in
theorem bd_X2_offerEntries : ∀ As w P K, qq_Sat ww_sh ww_ro cs_X2_offerEntries (qq_at 51 kd_X2_offerEntries) none P K → T_X2_offerEntries As w P → K 0 (lv_args 0 As) [] w := by
  intro As w P K S h
  unfold T_X2_offerEntries at h
  split at h
  · rename_i p b x
    obtain ⟨X, ⟨hp, hn, hO, ex, hX⟩, hq⟩ := h
    obtain ⟨ea, ha⟩ := qn_eq hp (by decide)
    refine qq_go_ok S (fun pc => Nat.beq pc 3) 60 ?_
    conv => whnf
    exact qq_wk S (on_3 S ea hn ha ex hX hO hq 13 0 rfl _ w rfl eRl_rf (fun f hf => absurd hf (by omega))) ⟨rfl, rfl, rfl, rfl, rfl, trivial⟩
  · exact h.elim
theorem ha_X2_offerEntries : ∀ As w P, T_X2_offerEntries As w P → qq_wd As ≤ 6 := by
  intro As w P h
  unfold T_X2_offerEntries at h
  split at h
  · exact Nat.le_of_ble_eq_true rfl
  · exact h.elim
theorem hv_X2_offerEntries : ∀ As w P, T_X2_offerEntries As w P → ∃ (k : Nat) (r : List Value) (fs : List Nat), As = .ref k :: r ∧ ww_sh[k]? = some (.inr (2, fs)) := by
  intro As w P h
  unfold T_X2_offerEntries at h
  split at h
  · exact ⟨_, _, _, rfl, rfl⟩
  · exact h.elim
set_option maxRecDepth 100000 in
theorem M_X2_offerEntries (l : Launch) : qq_M l ww_T ww_N vwCl ww_sh ww_ro ww_zs yX2_offerEntries cX2_offerEntries 6 none (ww_rm 1) T_X2_offerEntries := by
  refine qq_mk (host := RX7) (is := ki_X2_offerEntries) (cs := cs_X2_offerEntries) (by decide) ww_k1 wl_X2 ww_so ww_so2 kc_X2_offerEntries kv_X2_offerEntries kg_X2_offerEntries ?_ ha_X2_offerEntries bd_X2_offerEntries
  intro k i q hi hq
  match k, hi, hq with
  | 0, hi, hq => cases hi; cases hq; exact fun p e s m args below meth c D tys tC ad Q pc X hdg => qq_cS X ww_gd (M_X7_has l) kf_X7_has.1 (Or.inr ⟨RX7, ww_n3 (i := 199) (w := Cond.methodLinkNest RX2 96 yX7_has RX7) rfl rfl⟩) kf_X7_has.2.1 kf_X7_has.2.2 ⟨by decide, by decide, by decide +kernel⟩ rfl rfl ⟨by decide, by decide⟩ ⟨Nat.le_refl _, Nat.le_refl _⟩ hdg
  | 1, hi, hq => cases hi; cases hq; exact fun p e s m args below meth c D tys tC ad Q pc X hdg => qq_cV (ci := 2) X ww_gd (M_X2_entry l) kf_X2_entry.1 (Or.inl (ww_a4 (i := 27) (w := Cond.methodLink RX2 159 yX2_entry) rfl rfl)) kf_X2_entry.2.1 kf_X2_entry.2.2.1 kf_X2_entry.2.2.2 ⟨by decide, by decide, by decide +kernel⟩ rfl rfl rfl ⟨by decide, by decide⟩ ⟨Nat.le_refl _, Nat.le_refl _⟩ hv_X2_entry hdg
  | n + 2, hi, hq => simp [cs_X2_offerEntries] at hq
abbrev cs_X2_nearestEntry : List (Nat × qq_t) := []
def T_X2_nearestEntry : qq_t := fun As w P => match As with
  | [.ref 4, .int a] => (vp_in a 105 ∧ lOk (w.2 22) 2000000000000 (qn a)) ∧ ((∀ i, i < qn a → w.1 23 i = 0 → ¬ lq (w.2 22 i) ≤ 1000000000000) → P (some (.int (-5))) w) ∧ ∀ c, c < qn a → w.1 23 c = 0 → lq (w.2 22 c) ≤ 1000000000000 → (∀ i, i < qn a → w.1 23 i = 0 → lq (w.2 22 c) ≤ lq (w.2 22 i)) → P (some (.int (nI c))) w
  | _ => False
def nE (w : qq_w) (k : Nat) (x2 : Int32) (x3 : Int64) : Prop := (x2 = -5 ∧ x3 = lN 2000000000000 ∧ ∀ i, i < k → w.1 23 i = 0 → ¬ lq (w.2 22 i) ≤ 1000000000000) ∨ ∃ c L, c < k ∧ x2 = nI c ∧ x3 = lN L ∧ L ≤ 1000000000000 ∧ w.2 22 c = lN L ∧ w.1 23 c = 0 ∧ ∀ i, i < k → w.1 23 i = 0 → L ≤ lq (w.2 22 i)
theorem ne_10 {P : Option Value → qq_w → Prop} {K : Nat → qq_L → List Value → qq_w → Prop} (S : qq_Sat ww_sh ww_ro cs_X2_nearestEntry (qq_at 57 kd_X2_nearestEntry) (some .int) P K) {w : qq_w} {a : Int32} {A : Nat} (ea : a = nI A) (hA : A < 105) (hO : lOk (w.2 22) 2000000000000 A)
    (hq : ∀ x2 x3, nE w A x2 x3 → P (some (.int x2)) w) :
    ∀ m i, i + m = A → ∀ (x2 : Int32) (x3 : Int64) (x5 : Int32), x5 = nI i → nE w i x2 x3 → K 10 [(0, .ref 4), (1, .int a), (2, .int x2), (3, .long x3), (5, .int x5)] [] w := by
  intro m
  induction m with
  | zero =>
    intro i hi x2 x3 x5 e5 h1
    have : i = A := by omega
    subst this
    refine qq_go_ok S (fun pc => Nat.beq pc 10) 60 ?_
    conv => whnf
    refine br_t (i_ge' e5 ea (by omega) (by omega)) ?_
    conv => whnf
    exact hq x2 x3 h1
  | succ m ih =>
    intro i hi x2 x3 x5 e5 h1
    obtain ⟨Y, eY, hY⟩ := hO i (by omega)
    have c22 : w.2 22 x5.toNatClampNeg = lN Y := by rw [i_c e5 (by omega)]; exact eY
    have c23 : w.1 23 x5.toNatClampNeg = w.1 23 i := by rw [i_c e5 (by omega)]
    obtain ⟨L, e3, hL⟩ : ∃ L, x3 = lN L ∧ L ≤ 2000000000000 := by
      rcases h1 with ⟨-, z, -⟩ | ⟨c, L, -, -, z, z2, -⟩
      · exact ⟨_, z, Nat.le_refl _⟩
      · exact ⟨L, z, by omega⟩
    have hlt : w.2 22 x5.toNatClampNeg < x3 ↔ Y < L := by rw [c22, e3]; exact lL_lt (by omega) (by omega)
    have stay : (w.1 23 i = 0 → ¬ Y < L) → nE w (i + 1) x2 x3 := fun hs => by
      rcases h1 with ⟨z1, z2, z3⟩ | ⟨c, L', z1, z2, z3, z4, z5, z6, z7⟩
      · refine Or.inl ⟨z1, z2, fun j hj y => ?_⟩
        by_cases q : j = i
        · subst q
          rw [z2] at e3
          have := (lL_eq (by omega) (by omega)).mp e3
          have := hs y
          rw [eY, lq_lN (by omega)]
          omega
        · exact z3 j (by omega) y
      · refine Or.inr ⟨c, L', by omega, z2, z3, z4, z5, z6, fun j hj y => ?_⟩
        by_cases q : j = i
        · subst q
          rw [z3] at e3
          have := (lL_eq (by omega) (by omega)).mp e3
          have := hs y
          rw [eY, lq_lN (by omega)]
          omega
        · exact z7 j (by omega) y
    refine qq_go_ok S (fun pc => Nat.beq pc 10) 60 ?_
    conv => whnf
    refine br_f (i_lt' e5 ea (by omega) (by omega)) ?_
    conv => whnf
    refine ⟨i_in 104 e5 (by omega) (by decide), ?_⟩
    conv => whnf
    refine ⟨fun z => ?_, fun z => ?_⟩
    · have z : ¬ w.1 23 x5.toNatClampNeg = 0 := z
      rw [c23] at z
      conv => whnf
      exact qq_wk S (ih (i + 1) (by omega) _ _ _ (i_s e5) (stay fun y => absurd y z)) ⟨rfl, rfl, rfl, rfl, rfl, trivial⟩
    · have z : w.1 23 x5.toNatClampNeg = 0 := z
      rw [c23] at z
      conv => whnf
      refine ⟨i_in 104 e5 (by omega) (by decide), ?_⟩
      conv => whnf
      refine ⟨fun z2 => ?_, fun z2 => ?_⟩
      · have z2 : ¬ Y < L := fun y => lcmp_ge.mp z2 (hlt.mpr y)
        conv => whnf
        exact qq_wk S (ih (i + 1) (by omega) _ _ _ (i_s e5) (stay fun _ => z2)) ⟨rfl, rfl, rfl, rfl, rfl, trivial⟩
      · have z2 : Y < L := by
          by_cases y : Y < L
          · exact y
          · exact absurd (lcmp_ge.mpr (fun t => y (hlt.mp t))) z2
        conv => whnf
        refine ⟨i_in 104 e5 (by omega) (by decide), ?_⟩
        conv => whnf
        refine qq_wk S (ih (i + 1) (by omega) x5 (w.2 22 x5.toNatClampNeg) _ (i_s e5) (Or.inr ⟨i, Y, by omega, e5, c22, by omega, eY, z, fun j hj y => ?_⟩)) ⟨rfl, rfl, rfl, rfl, rfl, trivial⟩
        by_cases q : j = i
        · subst q; rw [eY, lq_lN (by omega)]; exact Nat.le_refl _
        · rcases h1 with ⟨w1, w2, w3⟩ | ⟨c, L', w1, w2, w3, w4, w5, w6, w7⟩
          · have := w3 j (by omega) y
            omega
          · rw [w3] at e3
            have := (lL_eq (by omega) (by omega)).mp e3
            have := w7 j (by omega) y
            omega
set_option maxHeartbeats 4000000 in
set_option maxRecDepth 100000 in
theorem bd_X2_nearestEntry : ∀ As w P K, qq_Sat ww_sh ww_ro cs_X2_nearestEntry (qq_at 57 kd_X2_nearestEntry) (some .int) P K → T_X2_nearestEntry As w P → K 0 (lv_args 0 As) [] w := by
  intro As w P K S h
  unfold T_X2_nearestEntry at h
  split at h
  · rename_i a
    obtain ⟨⟨hp, hO⟩, hq0, hq1⟩ := h
    obtain ⟨ea, ha⟩ := qn_eq hp (by decide)
    refine qq_go_ok S (fun pc => Nat.beq pc 10) 60 ?_
    conv => whnf
    refine qq_wk S (ne_10 S ea ha hO (fun x2 x3 h => ?_) (qn a) 0 (Nat.zero_add _) (-5) 2000000000000 _ rfl (Or.inl ⟨rfl, rfl, fun i hi => absurd hi (by omega)⟩)) ⟨rfl, rfl, rfl, rfl, rfl, trivial⟩
    rcases h with ⟨z1, z2, z3⟩ | ⟨c, L, z1, z2, z3, z4, z5, z6, z7⟩
    · rw [z1]; exact hq0 z3
    · rw [z2]
      refine hq1 c z1 z6 (by rw [z5, lq_lN (by omega)]; exact z4) (fun i hi y => ?_)
      rw [z5, lq_lN (by omega)]
      exact z7 i hi y
  · exact h.elim
theorem ha_X2_nearestEntry : ∀ As w P, T_X2_nearestEntry As w P → qq_wd As ≤ 6 := by
  intro As w P h
  unfold T_X2_nearestEntry at h
  split at h
  · exact Nat.le_of_ble_eq_true rfl
  · exact h.elim
theorem hv_X2_nearestEntry : ∀ As w P, T_X2_nearestEntry As w P → ∃ (k : Nat) (r : List Value) (fs : List Nat), As = .ref k :: r ∧ ww_sh[k]? = some (.inr (2, fs)) := by
  intro As w P h
  unfold T_X2_nearestEntry at h
  split at h
  · exact ⟨_, _, _, rfl, rfl⟩
  · exact h.elim
set_option maxRecDepth 100000 in
theorem M_X2_nearestEntry (l : Launch) : qq_M l ww_T ww_N vwCl ww_sh ww_ro ww_zs yX2_nearestEntry cX2_nearestEntry 6 (some .int) (ww_rm 0) T_X2_nearestEntry := by
  refine qq_mk (host := RX7) (is := ki_X2_nearestEntry) (cs := cs_X2_nearestEntry) (by decide) ww_k1 wl_X2 ww_so ww_so2 kc_X2_nearestEntry kv_X2_nearestEntry kg_X2_nearestEntry ?_ ha_X2_nearestEntry bd_X2_nearestEntry
  intro k i q hi hq
  simp [cs_X2_nearestEntry] at hq
abbrev cs_X2_enterFrom : List (Nat × qq_t) := [(2, T_X3_isCall), (3, T_X3_of), (4, T_X2_level), (3, T_X2_entry), (2, T_X2_sum), (4, T_X5_step), (4, T_X2_offerEntries)]
/-- whose nodes, and whose ENTERs -/
def cOwn (w : qq_w) (N M : Nat) : Prop := (∀ n, n < N → ∃ p m, p < M ∧ m < N ∧ cX w n 0 = nI p ∧ w.1 12 p = nI m ∧ cX w m 0 = nI p ∧ cX w m 1 = 0) ∧ ∀ c, c < N → cX w c 1 = 9 → qn (cX w c 5) < M
def eDj (w : qq_w) (N M : Nat) : Prop := cPW w N ∧ (∀ j, fs (w.1 19 j)) ∧ lOk (w.2 33) 2000000000000 (cM w) ∧ cOwn w N M ∧ M ≤ 8 ∧ w.1 1 9 = nI M ∧ lOk (w.2 22) 2000000000000 (13 * M) ∧ ∀ c L, c < 13 * M → w.2 22 c = lN L → L ≤ 1000000000000 → cEDc w N c L
theorem cWD_e {w w1 : qq_w} (N : Nat) (h : w1.1 = w.1) (h2 : w1.2 33 = w.2 33) : cWD w1 N = cWD w N := by
  unfold cWD
  have a1 : cBg w1 = cBg w := by
    funext n f
    unfold cBg cBegin
    rw [h]
  have a2 : cLvK w1 = cLvK w := by
    funext N n d f b
    unfold cLvK
    rw [h2]
  have a3 : cPr w1 = cPr w := by
    funext n m
    unfold cPr cX
    rw [h]
  have a4 : cGoI w1 = cGoI w := by
    funext c f m g
    unfold cGoI cX
    rw [h]
  rw [a1, a2, a3, a4]
theorem cEDc_e {w w1 : qq_w} (N : Nat) (h : w1.1 = w.1) (h2 : w1.2 33 = w.2 33) : cEDc w1 N = cEDc w N := by
  funext c L
  unfold cEDc
  rw [cWD_e N h h2, h]
theorem cPW_e {w w1 : qq_w} {N : Nat} (h : w1.1 = w.1) (h2 : w1.2 17 = w.2 17) (hP : cPW w N) : cPW w1 N := by
  unfold cPW cX at hP ⊢
  rw [h, h2]
  exact hP
theorem eDj_go {w w1 : qq_w} {N M v : Nat} (h : eDj w N M) (h1 : eRl w w1 M v (cEDc w N)) : eDj w1 N M := by
  obtain ⟨a1, a2, a3, a4, a5, a6, a7, a8⟩ := h
  have e33 := h1.2.1 33 (by decide)
  refine ⟨cPW_e h1.1 (h1.2.1 17 (by decide)) a1, by rw [h1.1]; exact a2, by unfold cM; rw [h1.1, e33]; exact a3, ?_, a5, by rw [h1.1]; exact a6, eRl_ok h1 a7, ?_⟩
  · unfold cOwn cX at a4 ⊢
    rw [h1.1]
    exact a4
  · rw [cEDc_e N h1.1 e33]
    intro c L hc e hL
    rcases h1.2.2 c hc with z | ⟨L', -, z2, z3, -, z6⟩
    · rw [z] at e; exact a8 c L hc e hL
    · rw [z3] at e
      have := (lL_eq (by omega) (by omega)).mp e
      subst this
      exact z6
def eClC (w w' : qq_w) (p d V c e : Nat) : Prop := cX w c 1 = 9 → cX w c 0 = nI p → ∀ b g, w.2 33 (169 * c + 13 * d + e) = lN b → b ≤ 1000000000000 → bt (w.1 19 (39 * c + 13 * 1 + e)) g = true → lq (w'.2 22 (13 * qn (cX w c 5) + g)) ≤ lcap (lcap (V + b) + 1)
def T_X2_enterFrom : qq_t := fun As w P => match As with
  | [.ref 4, .int p, .int d] => ∃ V, (vp_in p 8 ∧ vp_in d 13 ∧ eDj w (qn (w.1 1 10)) (qn (w.1 1 9)) ∧ qn p < qn (w.1 1 9) ∧ w.2 22 (13 * qn p + qn d) = lN V ∧ V ≤ 1000000000000) ∧ ∀ w', eRl w w' (qn (w.1 1 9)) V (cEDc w (qn (w.1 1 10))) → (∀ c e, c < qn (w.1 1 10) → e < 13 → eClC w w' (qn p) (qn d) V c e) → P none w'
  | _ => False
theorem eClC_go {w w1 w2 : qq_w} {N M p d V c e v : Nat} {A : Nat → Nat → Prop} (hj : eDj w N M) (hc : c < N) (h : eClC w w1 p d V c e) (h2 : eRl w1 w2 M v A) : eClC w w2 p d V c e := by
  intro z1 z2 b g z3 z4 z5
  have hg := fs_lt (hj.2.1 _) z5
  have := hj.2.2.2.1.2 c hc z1
  exact Nat.le_trans (eRl_le h2 (by omega)) (h z1 z2 b g z3 z4 z5)
theorem ef_47 {P : Option Value → qq_w → Prop} {K : Nat → qq_L → List Value → qq_w → Prop} (S : qq_Sat ww_sh ww_ro cs_X2_enterFrom (qq_at 136 kd_X2_enterFrom) none P K) {w : qq_w} {p d x3 x4 : Int32} {pn dn V N M c : Nat} (hj : eDj w N M) (ep : p = nI pn) (hp : pn < M) (ed : d = nI dn) (hd : dn < 13) (eV : w.2 22 (13 * pn + dn) = lN V) (hV : V ≤ 1000000000000) (e3 : x3 = nI c) (hc : c < N) (h4 : (x4 = 1 ∧ cX w c 1 = 9 ∧ cX w c 0 = nI pn) ∨ (x4 = 0 ∧ ¬ (cX w c 1 = 9 ∧ cX w c 0 = nI pn))) {C : qq_w → Prop} (hC : ∀ w1 w2 v A, C w1 → eRl w1 w2 M v A → C w2)
    (hk : ∀ w1, eRl w w1 M V (cEDc w N) → C w1 → (∀ e, e < 13 → eClC w w1 pn dn V c e) → K 2 [(0, .ref 4), (1, .int p), (2, .int d), (3, .int (x3 + 1))] [] w1) :
    ∀ m i, i + m = 13 → ∀ (x5 : Int32) (w1 : qq_w), x5 = nI i → eRl w w1 M V (cEDc w N) → C w1 → (∀ e, e < i → eClC w w1 pn dn V c e) → K 47 [(0, .ref 4), (1, .int p), (2, .int d), (3, .int x3), (4, .int x4), (5, .int x5)] [] w1 := by
  have hN := hj.1.2.1
  have hM8 := hj.2.2.2.2.1
  have hM : cM w = 169 * N := cM_N hj.1
  intro m
  induction m with
  | zero =>
    intro i hi x5 w1 e5 h1 hc1 h2
    have : i = 13 := by omega
    subst this
    refine qq_go_ok S (fun pc => Nat.beq pc 47 || Nat.beq pc 2) 60 ?_
    conv => whnf
    refine br_t (i_ge 13 e5 (by omega) (by omega)) ?_
    conv => whnf
    exact qq_wk S (hk w1 h1 hc1 h2) ⟨rfl, rfl, rfl, rfl, trivial⟩
  | succ m ih =>
    intro i hi x5 w1 e5 h1 hc1 h2
    have hj1 := eDj_go hj h1
    refine qq_go_ok S (fun pc => Nat.beq pc 47 || Nat.beq pc 2) 80 ?_
    conv => whnf
    refine br_f (i_nge 13 e5 (by omega) (by omega)) ?_
    conv => whnf
    refine ⟨fun z => ?_, fun z => ?_⟩
    · have z : ¬ (cX w c 1 = 9 ∧ cX w c 0 = nI pn) := by
        rcases h4 with ⟨y, -⟩ | ⟨-, y⟩
        · exact absurd (y.symm.trans z) (by decide)
        · exact y
      conv => whnf
      exact qq_wk S (hk w1 h1 hc1 (fun e _ y1 y2 => absurd ⟨y1, y2⟩ z)) ⟨rfl, rfl, rfl, rfl, trivial⟩
    · have hin : cX w c 1 = 9 ∧ cX w c 0 = nI pn := by
        rcases h4 with ⟨-, y⟩ | ⟨y, -⟩
        · exact y
        · exact absurd y z
      have ei := nI_lv e3 ed e5
      have ci := i_c ei (by omega)
      have e33 := h1.2.1 33 (by decide)
      obtain ⟨B, eB, hB⟩ := hj.2.2.1 (169 * c + 13 * dn + i) (by rw [hM]; omega)
      have cB : w1.2 33 ((x3 * 13 + d) * 13 + x5).toNatClampNeg = lN B := by rw [ci, e33]; exact eB
      have cU : w1.2 33 ((x3 * 13 + d) * 13 + x5).toNatClampNeg = 2000000000000 ↔ B = 2000000000000 := by rw [cB]; exact lL_eq (b := 2000000000000) (by omega) (by omega)
      conv => whnf
      refine ⟨i_in 10816 ei (by omega) (by decide), ?_⟩
      conv => whnf
      refine ⟨fun z => ?_, fun z => ?_⟩
      · have z : B = 2000000000000 := cU.mp (lcmp0.mp z)
        conv => whnf
        refine qq_wk S (ih (i + 1) (by omega) _ w1 (i_s e5) h1 hc1 (fun e he => ?_)) ⟨rfl, rfl, rfl, rfl, rfl, rfl, trivial⟩
        by_cases q : e = i
        · subst q
          intro _ _ b g y1 y2 _
          rw [eB] at y1
          have := (lL_eq (by omega) (by omega)).mp y1
          omega
        · exact h2 e (by omega)
      · have hB : B ≤ 1000000000000 := by
          rcases hB with y | y
          · exact y
          · exact absurd (lcmp0.mpr (cU.mpr y)) z
        have iE : p * 13 + d = nI (13 * pn + dn) := nI_ml ep ed (nI_lit 13)
        have hpop := eRl_pop h1 (c := 13 * pn + dn) (by omega) (by rw [eV, lq_lN (by omega)]; exact Nat.le_refl _)
        have cE : w1.2 22 (p * 13 + d).toNatClampNeg = lN V := by rw [i_c iE (by omega), hpop]; exact eV
        have el1 : lfar (w1.2 22 (p * 13 + d).toNatClampNeg + w1.2 33 ((x3 * 13 + d) * 13 + x5).toNatClampNeg) = lN (lcap (V + B)) := lfar_sum cE cB hV hB
        have el2 : lfar (lfar (w1.2 22 (p * 13 + d).toNatClampNeg + w1.2 33 ((x3 * 13 + d) * 13 + x5).toNatClampNeg) + 1) = lN (lcap (lcap (V + B) + 1)) := lfar_sum (B := 1) el1 rfl (lcap_le _) (by omega)
        have hlc := lcap_le (lcap (V + B) + 1)
        obtain ⟨q, r, l, q1, q2, q3, q4, q5, q6, q7, q8, q9⟩ := hj.1.2.2.1 c hc hin.1
        have hqM : q < M := by
          have := hj.2.2.2.1.2 c hc hin.1
          rw [q4, qn_nI (by omega)] at this
          exact this
        have i5 := nI_ml e3 (x := 5) (i := 5) rfl (nI_lit 10)
        have c5 : w1.1 13 (x3 * 10 + 5).toNatClampNeg = nI q := by rw [i_c i5 (by omega), h1.1]; exact q4
        have qq5 : qn (w1.1 13 (x3 * 10 + 5).toNatClampNeg) = q := by rw [c5]; exact qn_nI (by omega)
        have is1 := nI_st e3 (b := 1) (p := 1) rfl e5
        have c19 : w1.1 19 ((x3 * 3 + 1) * 13 + x5).toNatClampNeg = w.1 19 (39 * c + 13 * 1 + i) := by rw [i_c is1 (by omega), h1.1]
        have e9 : w1.1 1 9 = nI M := hj1.2.2.2.2.2.1
        have q9' : qn (w1.1 1 9) = M := by rw [e9]; exact qn_nI (by omega)
        conv => whnf
        refine ⟨i_in 104 iE (by omega) (by decide), ?_⟩
        conv => whnf
        refine ⟨i_in 10816 ei (by omega) (by decide), ?_⟩
        conv => whnf
        refine ⟨i_in 640 i5 (by omega) (by decide), ?_⟩
        conv => whnf
        refine ⟨i_in 2496 is1 (by omega) (by decide), ?_⟩
        conv => whnf
        refine ⟨lcap (lcap (V + B) + 1), ⟨i_in 8 c5 (by omega) (by decide), by rw [q9']; show qn (w1.1 13 (x3 * 10 + 5).toNatClampNeg) < M; rw [qq5]; exact hqM, by rw [q9']; exact hj1.2.2.2.2.2.2.1, el2, hlc⟩, fun w2 k1 k2 => ?_⟩
        have k1 : eRl w1 w2 (qn (w1.1 1 9)) (lcap (lcap (V + B) + 1)) (fun c L => L = lcap (lcap (V + B) + 1) ∧ ∃ f, f < 13 ∧ bt (w1.1 19 ((x3 * 3 + 1) * 13 + x5).toNatClampNeg) f = true ∧ c = 13 * qn (w1.1 13 (x3 * 10 + 5).toNatClampNeg) + f) := k1
        have k2 : ∀ f, f < 13 → bt (w1.1 19 ((x3 * 3 + 1) * 13 + x5).toNatClampNeg) f = true → lq (w2.2 22 (13 * qn (w1.1 13 (x3 * 10 + 5).toNatClampNeg) + f)) ≤ lcap (lcap (V + B) + 1) := k2
        rw [q9', c19, qq5] at k1
        rw [c19, qq5] at k2
        have h12 : eRl w1 w2 M V (cEDc w N) := by
          refine eRl_mono k1 ?_ (fun c' L hc' z => ?_)
          · rcases lcap_ge (lcap (V + B) + 1) with y | y
            · rcases lcap_ge (V + B) with y2 | y2 <;> omega
            · omega
          · obtain ⟨z1, f, z2, z3, z4⟩ := z
            subst z1
            obtain ⟨m0, hm0, em0, hW⟩ := hj.2.2.2.2.2.2.2 (13 * pn + dn) V (by omega) eV hV
            rw [show (13 * pn + dn) / 13 = pn by omega] at em0
            rw [show (13 * pn + dn) % 13 = dn by omega] at hW
            refine ⟨l, by omega, by rw [z4, show (13 * q + f) / 13 = q by omega]; exact q6, ?_⟩
            rw [z4, show (13 * q + f) % 13 = f by omega]
            refine WDer.go (c := c) (f := i) (WDer.lv (m := m0) (d := dn) ?_ hW ⟨hc, hd, by omega, eB, hB⟩) ⟨hin.1, by rw [q4, qn_nI (by omega)]; exact q6, z3⟩
            unfold cPr
            rw [hin.2, qn_nI (by omega)]
            exact em0
        conv => whnf
        refine qq_wk S (ih (i + 1) (by omega) _ w2 (i_s e5) (eRl_tr h1 h12) (hC w1 w2 _ _ hc1 h12) (fun e he => ?_)) ⟨rfl, rfl, rfl, rfl, rfl, rfl, trivial⟩
        by_cases qe : e = i
        · subst qe
          intro _ _ b g y1 y2 y3
          rw [eB] at y1
          have := (lL_eq (by omega) (by omega)).mp y1
          subst this
          rw [q4, qn_nI (by omega)]
          exact k2 g (fs_lt (hj.2.1 _) y3) y3
        · exact eClC_go hj hc (h2 e (by omega)) h12
theorem ef_42 {P : Option Value → qq_w → Prop} {K : Nat → qq_L → List Value → qq_w → Prop} (S : qq_Sat ww_sh ww_ro cs_X2_enterFrom (qq_at 136 kd_X2_enterFrom) none P K) {w1 : qq_w} {p d x3 x4 : Int32} (hk : K 47 [(0, .ref 4), (1, .int p), (2, .int d), (3, .int x3), (4, .int x4), (5, .int 0)] [] w1) : K 42 [(0, .ref 4), (1, .int p), (2, .int d), (3, .int x3)] [.int x4] w1 := by
  refine qq_go_ok S (fun pc => Nat.beq pc 47) 60 ?_
  conv => whnf
  exact qq_wk S hk ⟨rfl, rfl, rfl, rfl, rfl, rfl, trivial⟩
theorem ef_2 {P : Option Value → qq_w → Prop} {K : Nat → qq_L → List Value → qq_w → Prop} (S : qq_Sat ww_sh ww_ro cs_X2_enterFrom (qq_at 136 kd_X2_enterFrom) none P K) {w : qq_w} {p d : Int32} {pn dn V N M : Nat} (hj : eDj w N M) (ep : p = nI pn) (hp : pn < M) (ed : d = nI dn) (hd : dn < 13) (eV : w.2 22 (13 * pn + dn) = lN V) (hV : V ≤ 1000000000000)
    (hq : ∀ w1, eRl w w1 M V (cEDc w N) → (∀ c e, c < N → e < 13 → eClC w w1 pn dn V c e) → P none w1) :
    ∀ m i, i + m = N → ∀ (x3 : Int32) (w1 : qq_w), x3 = nI i → eRl w w1 M V (cEDc w N) → (∀ c e, c < i → e < 13 → eClC w w1 pn dn V c e) → K 2 [(0, .ref 4), (1, .int p), (2, .int d), (3, .int x3)] [] w1 := by
  have hN := hj.1.2.1
  have hM8 := hj.2.2.2.2.1
  intro m
  induction m with
  | zero =>
    intro i hi x3 w1 e3 h1 h2
    have : i = N := by omega
    subst this
    have e10 : w1.1 1 10 = nI i := by rw [h1.1]; exact hj.1.1
    refine qq_go_ok S (fun pc => Nat.beq pc 2) 60 ?_
    conv => whnf
    refine br_t (i_ge' e3 e10 (by omega) (by omega)) ?_
    conv => whnf
    exact hq w1 h1 h2
  | succ m ih =>
    intro i hi x3 w1 e3 h1 h2
    have e10 : w1.1 1 10 = nI N := by rw [h1.1]; exact hj.1.1
    have i1 := nI_ml e3 (x := 1) (i := 1) rfl (nI_lit 10)
    have i0 := nI_ml e3 (x := 0) (i := 0) rfl (nI_lit 10)
    have c1 : w1.1 13 (x3 * 10 + 1).toNatClampNeg = cX w i 1 := by rw [i_c i1 (by omega), h1.1]
    have c0 : w1.1 13 (x3 * 10 + 0).toNatClampNeg = cX w i 0 := by rw [i_c i0 (by omega), h1.1]
    have key : ∀ x4 : Int32, ((x4 = 1 ∧ cX w i 1 = 9 ∧ cX w i 0 = nI pn) ∨ (x4 = 0 ∧ ¬ (cX w i 1 = 9 ∧ cX w i 0 = nI pn))) → K 42 [(0, .ref 4), (1, .int p), (2, .int d), (3, .int x3)] [.int x4] w1 := fun x4 h4 => by
      refine ef_42 S (ef_47 S (C := fun w' => ∀ c e, c < i → e < 13 → eClC w w' pn dn V c e) hj ep hp ed hd eV hV e3 (by omega) h4 (fun w1 w2 v A f1 f2 c e y1 y2 => eClC_go hj (by omega) (f1 c e y1 y2) f2) (fun w2 k1 k2 k3 => ih (i + 1) (by omega) _ w2 (i_s e3) k1 (fun c e y1 y2 => ?_)) 13 0 rfl _ w1 rfl h1 h2 (fun e he => absurd he (by omega)))
      by_cases q : c = i
      · subst q; exact k3 e y2
      · exact k2 c e (by omega) y2
    refine qq_go_ok S (fun pc => Nat.beq pc 42) 60 ?_
    conv => whnf
    refine br_f (i_lt' e3 e10 (by omega) (by omega)) ?_
    conv => whnf
    refine ⟨i_in 640 i1 (by omega) (by decide), ?_⟩
    conv => whnf
    refine ⟨fun z => ?_, fun z => ?_⟩
    · have z : ¬ w1.1 13 (x3 * 10 + 1).toNatClampNeg = 9 := z
      rw [c1] at z
      conv => whnf
      refine br_t rfl ?_
      conv => whnf
      exact qq_wk S (key 0 (Or.inr ⟨rfl, fun y => z y.1⟩)) ⟨rfl, rfl, rfl, rfl, trivial⟩
    · have z : w1.1 13 (x3 * 10 + 1).toNatClampNeg = 9 := z
      rw [c1] at z
      conv => whnf
      refine br_f (by decide) ?_
      conv => whnf
      refine ⟨i_in 640 i0 (by omega) (by decide), ?_⟩
      conv => whnf
      refine ⟨fun z2 => ?_, fun z2 => ?_⟩
      · have z2 : ¬ w1.1 13 (x3 * 10 + 0).toNatClampNeg = p := z2
        rw [c0, ep] at z2
        conv => whnf
        exact qq_wk S (key 0 (Or.inr ⟨rfl, fun y => z2 y.2⟩)) ⟨rfl, rfl, rfl, rfl, trivial⟩
      · have z2 : w1.1 13 (x3 * 10 + 0).toNatClampNeg = p := z2
        rw [c0, ep] at z2
        conv => whnf
        exact qq_wk S (key 1 (Or.inl ⟨rfl, z, z2⟩)) ⟨rfl, rfl, rfl, rfl, trivial⟩
set_option maxHeartbeats 4000000 in
set_option maxRecDepth 100000 in
theorem bd_X2_enterFrom : ∀ As w P K, qq_Sat ww_sh ww_ro cs_X2_enterFrom (qq_at 136 kd_X2_enterFrom) none P K → T_X2_enterFrom As w P → K 0 (lv_args 0 As) [] w := by
  intro As w P K S h
  unfold T_X2_enterFrom at h
  split at h
  · rename_i p d
    obtain ⟨V, ⟨hp, hp2, hj, hn, eV, hV⟩, hq⟩ := h
    obtain ⟨ep, hp8⟩ := qn_eq hp (by decide)
    obtain ⟨ed, hd⟩ := qn_eq hp2 (by decide)
    refine qq_go_ok S (fun pc => Nat.beq pc 2) 60 ?_
    conv => whnf
    exact qq_wk S (ef_2 S hj ep hn ed hd eV hV hq (qn (w.1 1 10)) 0 (Nat.zero_add _) _ w rfl eRl_rf (fun c e hc => absurd hc (by omega))) ⟨rfl, rfl, rfl, rfl, trivial⟩
  · exact h.elim
theorem ha_X2_enterFrom : ∀ As w P, T_X2_enterFrom As w P → qq_wd As ≤ 8 := by
  intro As w P h
  unfold T_X2_enterFrom at h
  split at h
  · exact Nat.le_of_ble_eq_true rfl
  · exact h.elim
theorem hv_X2_enterFrom : ∀ As w P, T_X2_enterFrom As w P → ∃ (k : Nat) (r : List Value) (fs : List Nat), As = .ref k :: r ∧ ww_sh[k]? = some (.inr (2, fs)) := by
  intro As w P h
  unfold T_X2_enterFrom at h
  split at h
  · exact ⟨_, _, _, rfl, rfl⟩
  · exact h.elim
set_option maxRecDepth 100000 in
theorem M_X2_enterFrom (l : Launch) : qq_M l ww_T ww_N vwCl ww_sh ww_ro ww_zs yX2_enterFrom cX2_enterFrom 8 none (ww_rm 2) T_X2_enterFrom := by
  refine qq_mk (host := RX7) (is := ki_X2_enterFrom) (cs := cs_X2_enterFrom) (by decide) ww_k1 wl_X2 ww_so ww_so2 kc_X2_enterFrom kv_X2_enterFrom kg_X2_enterFrom ?_ ha_X2_enterFrom bd_X2_enterFrom
  intro k i q hi hq
  match k, hi, hq with
  | 0, hi, hq => cases hi; cases hq; exact fun p e s m args below meth c D tys tC ad Q pc X hdg => qq_cV (ci := 3) X ww_gd (M_X3_isCall l) kf_X3_isCall.1 (Or.inl (ww_a4 (i := 26) (w := Cond.methodLink RX2 155 yX3_isCall) rfl rfl)) kf_X3_isCall.2.1 kf_X3_isCall.2.2.1 kf_X3_isCall.2.2.2 ⟨by decide, by decide, by decide +kernel⟩ rfl rfl rfl ⟨by decide, by decide⟩ ⟨Nat.le_refl _, Nat.le_refl _⟩ hv_X3_isCall hdg
  | 1, hi, hq => cases hi; cases hq; exact fun p e s m args below meth c D tys tC ad Q pc X hdg => qq_cV (ci := 3) X ww_gd (M_X3_of l) kf_X3_of.1 (Or.inl (ww_a3 (i := 220) (w := Cond.methodLink RX2 104 yX3_of) rfl rfl)) kf_X3_of.2.1 kf_X3_of.2.2.1 kf_X3_of.2.2.2 ⟨by decide, by decide, by decide +kernel⟩ rfl rfl rfl ⟨by decide, by decide⟩ ⟨Nat.le_refl _, Nat.le_refl _⟩ hv_X3_of hdg
  | 2, hi, hq => cases hi; cases hq; exact fun p e s m args below meth c D tys tC ad Q pc X hdg => qq_cV (ci := 2) X ww_gd (M_X2_level l) kf_X2_level.1 (Or.inl (ww_a3 (i := 227) (w := Cond.methodLink RX2 117 yX2_level) rfl rfl)) kf_X2_level.2.1 kf_X2_level.2.2.1 kf_X2_level.2.2.2 ⟨by decide, by decide, by decide +kernel⟩ rfl rfl rfl ⟨by decide, by decide⟩ ⟨Nat.le_refl _, Nat.le_refl _⟩ hv_X2_level hdg
  | 3, hi, hq => cases hi; cases hq; exact fun p e s m args below meth c D tys tC ad Q pc X hdg => qq_cV (ci := 2) X ww_gd (M_X2_entry l) kf_X2_entry.1 (Or.inl (ww_a4 (i := 27) (w := Cond.methodLink RX2 159 yX2_entry) rfl rfl)) kf_X2_entry.2.1 kf_X2_entry.2.2.1 kf_X2_entry.2.2.2 ⟨by decide, by decide, by decide +kernel⟩ rfl rfl rfl ⟨by decide, by decide⟩ ⟨Nat.le_refl _, Nat.le_refl _⟩ hv_X2_entry hdg
  | 4, hi, hq => cases hi; cases hq; exact fun p e s m args below meth c D tys tC ad Q pc X hdg => qq_cS X ww_gd (M_X2_sum l) kf_X2_sum.1 (Or.inl (ww_a3 (i := 231) (w := Cond.methodLink RX2 121 yX2_sum) rfl rfl)) kf_X2_sum.2.1 kf_X2_sum.2.2 ⟨by decide, by decide, by decide +kernel⟩ rfl rfl ⟨by decide, by decide⟩ ⟨Nat.le_refl _, Nat.le_refl _⟩ hdg
  | 5, hi, hq => cases hi; cases hq; exact fun p e s m args below meth c D tys tC ad Q pc X hdg => qq_cV (ci := 5) X ww_gd (M_X5_step l) kf_X5_step.1 (Or.inl (ww_a3 (i := 226) (w := Cond.methodLink RX2 113 yX5_step) rfl rfl)) kf_X5_step.2.1 kf_X5_step.2.2.1 kf_X5_step.2.2.2 ⟨by decide, by decide, by decide +kernel⟩ rfl rfl rfl ⟨by decide, by decide⟩ ⟨Nat.le_refl _, Nat.le_refl _⟩ hv_X5_step hdg
  | 6, hi, hq => cases hi; cases hq; exact fun p e s m args below meth c D tys tC ad Q pc X hdg => qq_cV (ci := 2) X ww_gd (M_X2_offerEntries l) kf_X2_offerEntries.1 (Or.inl (ww_a4 (i := 31) (w := Cond.methodLink RX2 163 yX2_offerEntries) rfl rfl)) kf_X2_offerEntries.2.1 kf_X2_offerEntries.2.2.1 kf_X2_offerEntries.2.2.2 ⟨by decide, by decide, by decide +kernel⟩ rfl rfl rfl ⟨by decide, by decide⟩ ⟨Nat.le_refl _, Nat.le_refl _⟩ hv_X2_offerEntries hdg
  | n + 7, hi, hq => simp [cs_X2_enterFrom] at hq
