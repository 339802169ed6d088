abbrev cs_X4_sink : List (Nat × qq_t) := [(3, T_X4_put)]
def T_X4_sink : qq_t := fun As w P => match As with
  | [.ref 7, .int c] => (vp_in c 10816 ∧ qn c < cM w ∧ lOk (w.2 33) 2000000000000 (cM w) ∧ ∃ s, 0 < s ∧ w.1 7 3 = nI s ∧ hpI (upd (w.1 34) 0 (nI (qn c))) (upd (w.1 35) (qn c) (nI 0)) s (cM w) ∧ hpD (hpG w (upd (w.1 34) 0 (nI (qn c)))) s 0) ∧ ∀ w' s, w.1 7 3 = nI s → s ≤ 10816 → cMv w w' → hpI (w'.1 34) (w'.1 35) s (cM w) → hpO (hpG w (w'.1 34)) s → (∀ z, z < cM w → (w'.1 35 z = -1 ↔ upd (w.1 35) (qn c) (nI 0) z = -1)) → P none w'
  | _ => False
/-- places as they stand with one laid -/
def sPut (w w1 : qq_w) (c p s M : Nat) (R : Nat → Prop) : Prop := cMv w w1 ∧ hpI (upd (w1.1 34) p (nI c)) (upd (w1.1 35) c (nI p)) s M ∧ hpD (hpG w (upd (w1.1 34) p (nI c))) s p ∧ ∀ z, z < M → (upd (w1.1 35) c (nI p) z = -1 ↔ R z)
theorem sk_99 {P : Option Value → qq_w → Prop} {K : Nat → qq_L → List Value → qq_w → Prop} (S : qq_Sat ww_sh ww_ro cs_X4_sink (qq_at 106 kd_X4_sink) none P K) {w w1 : qq_w} {a x2 : Int32} {c s M p : Nat} (ea : a = nI c) (hc : c < M) {R : Nat → Prop} (hps : p < s) (e2 : x2 = nI p) (h : sPut w w1 c p s M R) (he : ∀ j, 0 < j → j < s → (j - 1) / 2 = p → hpG w (upd (w1.1 34) p (nI c)) p ≤ hpG w (upd (w1.1 34) p (nI c)) j)
    (hq : ∀ w1, cMv w w1 → hpI (w1.1 34) (w1.1 35) s M → hpO (hpG w (w1.1 34)) s → (∀ z, z < M → (w1.1 35 z = -1 ↔ R z)) → P none w1) :
    K 99 [(0, .ref 7), (1, .int a), (2, .int x2)] [] w1 := by
  obtain ⟨hm, hI, hD, hR⟩ := h
  have hM := hI.2.1
  have hsM := hI.1
  refine qq_go_ok S (fun pc => Nat.beq pc 4) 60 ?_
  conv => whnf
  refine ⟨i_in 10816 e2 (by omega) (by decide), ?_⟩
  conv => whnf
  refine ⟨i_in 10816 ea (by omega) (by decide), ?_⟩
  conv => whnf
  have e34 : (qq_ui (qq_ui w1 34 x2.toNatClampNeg a) 35 a.toNatClampNeg x2).1 34 = upd (w1.1 34) p (nI c) := by
    show upd (w1.1 34) x2.toNatClampNeg a = _
    rw [i_c e2 (by omega), ea]
  have e35 : (qq_ui (qq_ui w1 34 x2.toNatClampNeg a) 35 a.toNatClampNeg x2).1 35 = upd (w1.1 35) c (nI p) := by
    show upd (w1.1 35) a.toNatClampNeg x2 = _
    rw [i_c ea (by omega), e2]
  refine hq _ ⟨fun q hq => ?_, hm.2⟩ (by rw [e34, e35]; exact hI) (by rw [e34]; exact hpD_end hD he) (by rw [e35]; exact hR)
  simp only [List.mem_cons, List.not_mem_nil, or_false, not_or] at hq
  rw [← hm.1 q (by simp [hq])]
  simp only [qq_ui, va_up, hq, if_false]
theorem sk_53 {P : Option Value → qq_w → Prop} {K : Nat → qq_L → List Value → qq_w → Prop} (S : qq_Sat ww_sh ww_ro cs_X4_sink (qq_at 106 kd_X4_sink) none P K) {w w1 : qq_w} {a x2 x3 : Int32} {c s M p d X : Nat} (ea : a = nI c) (hc : c < M) (eX : w.2 33 c = lN X) (hX : X ≤ 2000000000000) (hO : lOk (w.2 33) 2000000000000 M) {R : Nat → Prop} (hps : p < s) (e2 : x2 = nI p) (hds : d < s) (hd : (d - 1) / 2 = p) (hd0 : 0 < d) (e3 : x3 = nI d) (h : sPut w w1 c p s M R) (hmin : ∀ j, 0 < j → j < s → (j - 1) / 2 = p → hpG w (upd (w1.1 34) p (nI c)) d ≤ hpG w (upd (w1.1 34) p (nI c)) j)
    (hq : ∀ w1, cMv w w1 → hpI (w1.1 34) (w1.1 35) s M → hpO (hpG w (w1.1 34)) s → (∀ z, z < M → (w1.1 35 z = -1 ↔ R z)) → P none w1)
    (hk : ∀ (x2 x3 : Int32) (w2 : qq_w), x2 = nI d → x3 = nI (2 * d + 1) → sPut w w2 c d s M R → K 4 [(0, .ref 7), (1, .int a), (2, .int x2), (3, .int x3)] [] w2) :
    K 53 [(0, .ref 7), (1, .int a), (2, .int x2), (3, .int x3)] [] w1 := by
  have hh := h
  obtain ⟨hm, hI, hD, hR⟩ := h
  have hM := hI.2.1
  have hsM := hI.1
  have hpd : p ≠ d := by omega
  obtain ⟨u, u1, u2, u3⟩ := hI.2.2.1 d hds
  rw [upd_at, if_neg (by omega)] at u2
  obtain ⟨U, eU, hU3⟩ := hO u u1
  have ch : w1.1 34 x3.toNatClampNeg = nI u := by rw [i_c e3 (by omega)]; exact u2
  have cu : w1.2 33 (w1.1 34 x3.toNatClampNeg).toNatClampNeg = lN U := by rw [i_c ch (by omega), hm.2]; exact eU
  have cc : w1.2 33 a.toNatClampNeg = lN X := by rw [i_c ea (by omega), hm.2]; exact eX
  have hlt : w1.2 33 (w1.1 34 x3.toNatClampNeg).toNatClampNeg < w1.2 33 a.toNatClampNeg ↔ U < X := by rw [cu, cc]; exact lL_lt (by omega) (by omega)
  have gp : hpG w (upd (w1.1 34) p (nI c)) p = X := by
    show lq (w.2 33 (qn (upd (w1.1 34) p (nI c) p))) = X
    rw [upd_at, if_pos rfl, qn_nI (by omega), eX]
    exact lq_lN (by omega)
  have gd : hpG w (upd (w1.1 34) p (nI c)) d = U := by
    show lq (w.2 33 (qn (upd (w1.1 34) p (nI c) d))) = U
    rw [upd_at, if_neg (by omega), u2, qn_nI (by omega), eU]
    exact lq_lN (by omega)
  refine qq_go_ok S (fun pc => Nat.beq pc 4 || Nat.beq pc 99) 60 ?_
  conv => whnf
  refine ⟨i_in 10816 e3 (by omega) (by decide), ?_⟩
  conv => whnf
  refine ⟨i_in 10816 ch (by omega) (by decide), ?_⟩
  conv => whnf
  refine ⟨i_in 10816 ea (by omega) (by decide), ?_⟩
  conv => whnf
  refine ⟨fun z => ?_, fun z => ?_⟩
  · have z := hlt.mp (lcmp_lt.mp z)
    conv => whnf
    refine ⟨i_in 10816 e3 (by omega) (by decide), ?_⟩
    conv => whnf
    refine ⟨i_in 10816 e2 (by omega) (by decide), ?_⟩
    conv => whnf
    refine ⟨i_in 10816 ch (by omega) (by decide), ?_⟩
    conv => whnf
    have hpc : upd (w1.1 34) p (nI c) p = nI c := by rw [upd_at, if_pos rfl]
    have huc : upd (w1.1 34) p (nI c) d = nI u := by rw [upd_at, if_neg (by omega)]; exact u2
    obtain ⟨s1, s2, s3⟩ := hp_swap hI hps hds hpd hpc huc hc u1
    rw [hp_up] at s1
    rw [hp_pl] at s1 s3
    generalize hw2 : qq_ui (qq_ui w1 34 x2.toNatClampNeg (w1.1 34 x3.toNatClampNeg)) 35 (w1.1 34 x3.toNatClampNeg).toNatClampNeg x2 = w2
    have e34 : w2.1 34 = upd (w1.1 34) p (nI u) := by
      rw [← hw2]
      show upd (w1.1 34) x2.toNatClampNeg (w1.1 34 x3.toNatClampNeg) = _
      rw [ch, i_c e2 (by omega)]
    have e35 : w2.1 35 = upd (w1.1 35) u (nI p) := by
      rw [← hw2]
      show upd (w1.1 35) (w1.1 34 x3.toNatClampNeg).toNatClampNeg x2 = _
      rw [i_c ch (by omega), e2]
    have hm2 : cMv w w2 := by
      refine ⟨fun q hq => ?_, by rw [← hw2]; exact hm.2⟩
      simp only [List.mem_cons, List.not_mem_nil, or_false, not_or] at hq
      rw [← hm.1 q (by simp [hq]), ← hw2]
      simp only [qq_ui, va_up, hq, if_false]
    have e5 : (2 : Int32) * x3 + 1 = nI (2 * d + 1) := nI_mr e3 (nI_lit 1) (nI_lit 2)
    refine qq_wk S (hk x3 (2 * x3 + 1) w2 e3 e5 ⟨hm2, by rw [e34, e35]; exact s1, ?_, ?_⟩) ⟨rfl, rfl, rfl, rfl, trivial⟩
    · refine hpD_step hD hd hd0 hds (by rw [gp, gd]; omega) hmin (fun i => ?_)
      show lq (w.2 33 (qn (upd (w2.1 34) d (nI c) i))) = _
      rw [e34, gp, gd]
      by_cases y1 : i = d
      · rw [if_pos y1, upd_at, if_pos y1, qn_nI (by omega), eX]
        exact lq_lN (by omega)
      · rw [if_neg y1, upd_at, if_neg y1]
        by_cases y2 : i = p
        · rw [if_pos y2, upd_at, if_pos y2, qn_nI (by omega), eU]
          exact lq_lN (by omega)
        · rw [if_neg y2, upd_at, if_neg y2]
          show _ = lq (w.2 33 (qn (upd (w1.1 34) p (nI c) i)))
          rw [upd_at, if_neg y2]
    · intro z' hz'
      rw [e35, s3 z' hz']
      exact hR z' hz'
  · have z : ¬ U < X := fun y => z (lcmp_lt.mpr (hlt.mpr y))
    conv => whnf
    refine qq_wk S (sk_99 S (c := c) (s := s) (M := M) (p := p) (R := R) ea hc hps e2 hh (fun j j0 hj hje => Nat.le_trans ?_ (hmin j j0 hj hje)) hq) ⟨rfl, rfl, rfl, trivial⟩
    rw [gp, gd]
    omega
theorem sk_4 {P : Option Value → qq_w → Prop} {K : Nat → qq_L → List Value → qq_w → Prop} (S : qq_Sat ww_sh ww_ro cs_X4_sink (qq_at 106 kd_X4_sink) none P K) {w : qq_w} {a : Int32} {c s M X : Nat} (ea : a = nI c) (hc : c < M) (eX : w.2 33 c = lN X) (hX : X ≤ 2000000000000) (hO : lOk (w.2 33) 2000000000000 M) (es : w.1 7 3 = nI s) {R : Nat → Prop}
    (hq : ∀ w1, cMv w w1 → hpI (w1.1 34) (w1.1 35) s M → hpO (hpG w (w1.1 34)) s → (∀ z, z < M → (w1.1 35 z = -1 ↔ R z)) → P none w1) :
    ∀ k p, s ≤ p + k → p < s → ∀ (x2 x3 : Int32) (w1 : qq_w), x2 = nI p → x3 = nI (2 * p + 1) → sPut w w1 c p s M R → K 4 [(0, .ref 7), (1, .int a), (2, .int x2), (3, .int x3)] [] w1 := by
  intro k
  induction k with
  | zero => intro p h1 h2; exact absurd h1 (by omega)
  | succ k ih =>
    intro p hpk hps x2 x3 w1 e2 e3 h
    have hh := h
    obtain ⟨hm, hI, hD, hR⟩ := h
    have hM := hI.2.1
    have hsM := hI.1
    have e7 : w1.1 7 3 = nI s := by rw [hm.1 7 (by simp)]; exact es
    have hk : ∀ d, p < d → d < s → ∀ (x2 x3 : Int32) (w2 : qq_w), x2 = nI d → x3 = nI (2 * d + 1) → sPut w w2 c d s M R → K 4 [(0, .ref 7), (1, .int a), (2, .int x2), (3, .int x3)] [] w2 := fun d hpd hds y2 y3 w2 f2 f3 hs => ih d (by omega) hds y2 y3 w2 f2 f3 hs
    by_cases z : 2 * p + 1 < s
    · obtain ⟨u, u1, u2, u3⟩ := hI.2.2.1 (2 * p + 1) z
      rw [upd_at, if_neg (by omega)] at u2
      obtain ⟨U, eU, hU3⟩ := hO u u1
      have ch : w1.1 34 x3.toNatClampNeg = nI u := by rw [i_c e3 (by omega)]; exact u2
      have cu : w1.2 33 (w1.1 34 x3.toNatClampNeg).toNatClampNeg = lN U := by rw [i_c ch (by omega), hm.2]; exact eU
      have gu : hpG w (upd (w1.1 34) p (nI c)) (2 * p + 1) = U := by
        show lq (w.2 33 (qn (upd (w1.1 34) p (nI c) (2 * p + 1)))) = U
        rw [upd_at, if_neg (by omega), u2, qn_nI (by omega), eU]
        exact lq_lN (by omega)
      have e4 : x3 + 1 = nI (2 * p + 2) := i_s e3
      refine qq_go_ok S (fun pc => Nat.beq pc 4 || Nat.beq pc 53 || Nat.beq pc 99) 60 ?_
      conv => whnf
      refine br_f (i_lt' e3 e7 z (by omega)) ?_
      conv => whnf
      by_cases z2 : 2 * p + 2 < s
      · obtain ⟨v, v1, v2, v3⟩ := hI.2.2.1 (2 * p + 2) z2
        rw [upd_at, if_neg (by omega)] at v2
        obtain ⟨V, eV, hV3⟩ := hO v v1
        have ch2 : w1.1 34 (x3 + 1).toNatClampNeg = nI v := by rw [i_c e4 (by omega)]; exact v2
        have cv : w1.2 33 (w1.1 34 (x3 + 1).toNatClampNeg).toNatClampNeg = lN V := by rw [i_c ch2 (by omega), hm.2]; exact eV
        have gv : hpG w (upd (w1.1 34) p (nI c)) (2 * p + 2) = V := by
          show lq (w.2 33 (qn (upd (w1.1 34) p (nI c) (2 * p + 2)))) = V
          rw [upd_at, if_neg (by omega), v2, qn_nI (by omega), eV]
          exact lq_lN (by omega)
        have hlt : w1.2 33 (w1.1 34 (x3 + 1).toNatClampNeg).toNatClampNeg < w1.2 33 (w1.1 34 x3.toNatClampNeg).toNatClampNeg ↔ V < U := by rw [cu, cv]; exact lL_lt (by omega) (by omega)
        refine br_f (i_lt' e4 e7 z2 (by omega)) ?_
        conv => whnf
        refine ⟨i_in 10816 e4 (by omega) (by decide), ?_⟩
        conv => whnf
        refine ⟨i_in 10816 ch2 (by omega) (by decide), ?_⟩
        conv => whnf
        refine ⟨i_in 10816 e3 (by omega) (by decide), ?_⟩
        conv => whnf
        refine ⟨i_in 10816 ch (by omega) (by decide), ?_⟩
        conv => whnf
        have hcase : ∀ j, 0 < j → j < s → (j - 1) / 2 = p → j = 2 * p + 1 ∨ j = 2 * p + 2 := fun j _ _ _ => by omega
        refine ⟨fun y => ?_, fun y => ?_⟩
        · have y : ¬ V < U := fun t => lcmp_ge.mp y (hlt.mpr t)
          conv => whnf
          refine qq_wk S (sk_53 S (c := c) (s := s) (M := M) (p := p) (d := 2 * p + 1) (R := R) ea hc eX hX hO hps e2 z (by omega) (by omega) e3 hh (fun j j0 hj hje => ?_) hq (hk _ (by omega) z)) ⟨rfl, rfl, rfl, rfl, trivial⟩
          rcases hcase j j0 hj hje with t | t <;> subst t
          · exact Nat.le_refl _
          · rw [gu, gv]; omega
        · have y : V < U := by
            by_cases t : V < U
            · exact t
            · exact absurd (lcmp_ge.mpr (fun r => t (hlt.mp r))) y
          conv => whnf
          refine qq_wk S (sk_53 S (c := c) (s := s) (M := M) (p := p) (d := 2 * p + 2) (R := R) ea hc eX hX hO hps e2 z2 (by omega) (by omega) e4 hh (fun j j0 hj hje => ?_) hq (hk _ (by omega) z2)) ⟨rfl, rfl, rfl, rfl, trivial⟩
          rcases hcase j j0 hj hje with t | t <;> subst t
          · rw [gu, gv]; omega
          · exact Nat.le_refl _
      · refine br_t (i_ge' e4 e7 (by omega) (by omega)) ?_
        conv => whnf
        refine qq_wk S (sk_53 S (c := c) (s := s) (M := M) (p := p) (d := 2 * p + 1) (R := R) ea hc eX hX hO hps e2 z (by omega) (by omega) e3 hh (fun j j0 hj hje => ?_) hq (hk _ (by omega) z)) ⟨rfl, rfl, rfl, rfl, trivial⟩
        have : j = 2 * p + 1 := by omega
        subst this
        exact Nat.le_refl _
    · refine qq_go_ok S (fun pc => Nat.beq pc 4 || Nat.beq pc 53 || Nat.beq pc 99) 60 ?_
      conv => whnf
      refine br_t (i_ge' e3 e7 (by omega) (by omega)) ?_
      conv => whnf
      exact qq_wk S (sk_99 S (c := c) (s := s) (M := M) (p := p) (R := R) ea hc hps e2 hh (fun j j0 hj hje => absurd hj (by omega)) hq) ⟨rfl, rfl, rfl, trivial⟩
set_option maxHeartbeats 4000000 in
set_option maxRecDepth 100000 in
theorem bd_X4_sink : ∀ As w P K, qq_Sat ww_sh ww_ro cs_X4_sink (qq_at 106 kd_X4_sink) none P K → T_X4_sink As w P → K 0 (lv_args 0 As) [] w := by
  intro As w P K S h
  unfold T_X4_sink at h
  split at h
  · rename_i c
    obtain ⟨⟨hp, hcM, hO, s, hs, es, hI, hD⟩, hq⟩ := h
    obtain ⟨ea, ha⟩ := qn_eq hp (by decide)
    obtain ⟨X, eX, hX⟩ := hO (qn c) hcM
    have h1 := hI.1
    have h2 := hI.2.1
    refine qq_go_ok S (fun pc => Nat.beq pc 4) 60 ?_
    conv => whnf
    exact qq_wk S (sk_4 S (w := w) (c := qn c) (s := s) (M := cM w) (R := fun z => upd (w.1 35) (qn c) (nI 0) z = -1) ea hcM eX (by omega) hO es (fun w1 a1 a2 a3 a4 => hq w1 s es (by omega) a1 a2 a3 a4) s 0 (by omega) hs _ _ w rfl rfl ⟨⟨fun _ _ => rfl, rfl⟩, hI, hD, fun _ _ => Iff.rfl⟩) ⟨rfl, rfl, rfl, rfl, trivial⟩
  · exact h.elim
theorem ha_X4_sink : ∀ As w P, T_X4_sink As w P → qq_wd As ≤ 4 := by
  intro As w P h
  unfold T_X4_sink at h
  split at h
  · exact Nat.le_of_ble_eq_true rfl
  · exact h.elim
theorem hv_X4_sink : ∀ As w P, T_X4_sink As w P → ∃ (k : Nat) (r : List Value) (fs : List Nat), As = .ref k :: r ∧ ww_sh[k]? = some (.inr (4, fs)) := by
  intro As w P h
  unfold T_X4_sink at h
  split at h
  · exact ⟨_, _, _, rfl, rfl⟩
  · exact h.elim
set_option maxRecDepth 100000 in
theorem M_X4_sink (l : Launch) : qq_M l ww_T ww_N vwCl ww_sh ww_ro ww_zs yX4_sink cX4_sink 4 none (ww_rm 1) T_X4_sink := by
  refine qq_mk (host := RX7) (is := ki_X4_sink) (cs := cs_X4_sink) (by decide) ww_k1 wl_X4 ww_so ww_so2 kc_X4_sink kv_X4_sink kg_X4_sink ?_ ha_X4_sink bd_X4_sink
  intro k i q hi hq
  match k, hi, hq with
  | 0, hi, hq => cases hi; cases hq; exact fun p e s m args below meth c D tys tC ad Q pc X hdg => qq_cV (ci := 4) X ww_gd (M_X4_put l) kf_X4_put.1 (Or.inl (ww_a3 (i := 204) (w := Cond.methodLink RX4 37 yX4_put) rfl rfl)) kf_X4_put.2.1 kf_X4_put.2.2.1 kf_X4_put.2.2.2 ⟨by decide, by decide, by decide +kernel⟩ rfl rfl rfl ⟨by decide, by decide⟩ ⟨Nat.le_refl _, Nat.le_refl _⟩ hv_X4_put hdg
  | n + 1, hi, hq => simp [cs_X4_sink] at hq
abbrev cs_X4_take : List (Nat × qq_t) := [(2, T_X4_sink)]
def T_X4_take : qq_t := fun As w P => match As with
  | [.ref 7] => (cHp w ∧ lOk (w.2 33) 2000000000000 (cM w)) ∧ (w.1 7 3 = 0 → (∀ z, z < cM w → ¬ cIn w z) → P (some (.int (-5))) w) ∧ (¬ w.1 7 3 = 0 → ∀ c w', c < cM w → cIn w c → (∀ z, z < cM w → cIn w z → lq (w.2 33 c) ≤ lq (w.2 33 z)) → cFr w w' → w'.2 = w.2 → cHp w' → (∀ z, z < cM w → (cIn w' z ↔ cIn w z ∧ z ≠ c)) → P (some (.int (nI c))) w')
  | _ => False

set_option maxHeartbeats 4000000 in
set_option maxRecDepth 100000 in
theorem bd_X4_take : ∀ As w P K, qq_Sat ww_sh ww_ro cs_X4_take (qq_at 56 kd_X4_take) (some .int) P K → T_X4_take As w P → K 0 (lv_args 0 As) [] w := by
  intro As w P K S h
  unfold T_X4_take at h
  split at h
  · skip
    obtain ⟨⟨⟨s, es, hI, hOr⟩, hO⟩, hq0, hq1⟩ := h
    have hI0 := hI
    obtain ⟨h1, h2, h3, h4⟩ := hI0
    refine qq_go_ok S (fun _ => false) 60 ?_
    conv => whnf
    rcases Nat.eq_zero_or_pos s with z | z
    · subst z
      refine br_nf es ?_
      conv => whnf
      refine hq0 es (fun c hc y => ?_)
      rcases h4 c hc with q | ⟨i, q, -⟩
      · exact y q
      · exact absurd q (by omega)
    · have hs0 : ¬ w.1 7 3 = 0 := fun e => by
        have : s = 0 := (nI_eq (by omega) (by omega)).mp (es.symm.trans e)
        omega
      have hq1 := hq1 hs0
      refine br_nt hs0 ?_
      conv => whnf
      refine ⟨i_in 10816 (k := 0) rfl (by omega) (by decide), ?_⟩
      conv => whnf
      obtain ⟨c, c1, c2, c3⟩ := h3 0 z
      have o34 : w.1 34 (0 : Int32).toNatClampNeg = nI c := c2
      refine ⟨i_in 10816 o34 (by omega) (by decide), ?_⟩
      have hin : cIn w c := fun e => nI_m1 (by omega) (c3.symm.trans e)
      have hmin : ∀ z, z < cM w → cIn w z → lq (w.2 33 c) ≤ lq (w.2 33 z) := fun z' hz' y => by
        rcases h4 z' hz' with q | ⟨i, q1, q2, q3⟩
        · exact absurd q y
        · have := hpO_min hOr (i + 1) i (by omega) q1
          simp only [hpG, c2, q3] at this
          rw [qn_nI (by omega), qn_nI (by omega)] at this
          exact this
      have d1 : w.1 7 3 - 1 = nI (s - 1) := by
        have e : s = s - 1 + 1 := by omega
        rw [es, e]; exact nI_p1 _
      generalize hwa : qq_ui (qq_ui w 35 (w.1 34 (0 : Int32).toNatClampNeg).toNatClampNeg (-1)) 7 3 (w.1 7 3 - 1) = wa
      have a35 : wa.1 35 = upd (w.1 35) c (-1) := by
        rw [← hwa]
        show upd (w.1 35) (w.1 34 (0 : Int32).toNatClampNeg).toNatClampNeg (-1) = _
        rw [i_c o34 (by omega)]
      have a34 : wa.1 34 = w.1 34 := by rw [← hwa]; rfl
      have a73 : wa.1 7 3 = nI (s - 1) := by rw [← hwa]; exact d1
      have a7 : ∀ j, j ≠ 3 → wa.1 7 j = w.1 7 j := fun j hj => by
        rw [← hwa]
        show upd (w.1 7) 3 _ j = _
        rw [upd_at, if_neg hj]
      have ao : ∀ q, q ∉ [7, 35] → wa.1 q = w.1 q := fun q hq => by
        simp only [List.mem_cons, List.not_mem_nil, or_false, not_or] at hq
        rw [← hwa]
        simp only [qq_ui, va_up, hq, if_false]
      have a2 : wa.2 = w.2 := by rw [← hwa]; rfl
      have aM : cM wa = cM w := by unfold cM; rw [ao 1 (by simp)]
      by_cases z1 : s = 1
      · subst z1
        conv => whnf
        refine br_t (i_ge' (x := 0) (i := 0) rfl (show w.1 7 3 - 1 = nI 0 from d1) (by omega) (by omega)) ?_
        conv => whnf
        have key := hq1 c wa c1 hin hmin ⟨fun q hq => ao q (by simp at hq ⊢; omega), a7, fun q _ => by rw [a2]⟩ a2 ⟨0, a73, ⟨by omega, by rw [aM]; exact h2, fun i hi => absurd hi (by omega), fun c' hc' => ?_⟩, fun i _ hi => absurd hi (by omega)⟩ (fun z' hz' => ?_)
        · rw [← hwa, ← c2] at key
          exact key
        · rw [aM] at hc'
          left
          rw [a35, upd_at]
          by_cases y : c' = c
          · rw [if_pos y]
          · rw [if_neg y]
            rcases h4 c' hc' with q | ⟨i, q1, q2, q3⟩
            · exact q
            · have : i = 0 := by omega
              subst this
              exact absurd ((nI_eq (by omega) (by omega)).mp (q3.symm.trans c2)) y
        · show ¬ wa.1 35 z' = -1 ↔ _
          rw [a35, upd_at]
          by_cases y : z' = c
          · rw [if_pos y]
            exact ⟨fun t => absurd rfl t, fun t => absurd y t.2⟩
          · rw [if_neg y]
            exact ⟨fun t => ⟨t, y⟩, fun t => t.1⟩
      · obtain ⟨v, v1, v2, v3⟩ := h3 (s - 1) (by omega)
        have hvc : v ≠ c := fun e => by
          subst e
          have := (nI_eq (by omega) (by omega)).mp (v3.symm.trans c3)
          omega
        have ov : wa.1 34 (wa.1 7 3).toNatClampNeg = nI v := by rw [a34, i_c a73 (by omega)]; exact v2
        have qv : qn (wa.1 34 (wa.1 7 3).toNatClampNeg) = v := by rw [ov]; exact qn_nI (by omega)
        conv => whnf
        refine br_f (i_lt' (x := 0) (i := 0) rfl d1 (by omega) (by omega)) ?_
        conv => whnf
        refine ⟨i_in 10816 d1 (by omega) (by decide), ?_⟩
        have hsink : T_X4_sink [.ref 7, .int (wa.1 34 (wa.1 7 3).toNatClampNeg)] wa (fun _ w' => P (some (.int (w.1 34 (0 : Int32).toNatClampNeg))) w') := by
          refine ⟨⟨i_in 10816 ov (by omega) (by decide), by rw [qv, aM]; exact v1, by rw [a2, aM]; exact hO, s - 1, by omega, a73, ?_, ?_⟩, fun w' s' b1 b0 b2 b3 b4 b5 => ?_⟩
          · rw [qv, a34, a35, aM]
            refine ⟨by omega, h2, fun i hi => ?_, fun c' hc' => ?_⟩
            · by_cases y : i = 0
              · exact ⟨v, v1, by rw [upd_at, if_pos y], by rw [upd_at, if_pos rfl, y]⟩
              · obtain ⟨c', b1, b2, b3⟩ := h3 i (by omega)
                refine ⟨c', b1, by rw [upd_at, if_neg y]; exact b2, ?_⟩
                rw [upd_at, if_neg (fun e => ?_), upd_at, if_neg (fun e => ?_)]
                · exact b3
                · subst e
                  exact y ((nI_eq (by omega) (by omega)).mp (b3.symm.trans c3))
                · subst e
                  have := (nI_eq (by omega) (by omega)).mp (b3.symm.trans v3)
                  omega
            · by_cases y : c' = v
              · exact Or.inr ⟨0, by omega, by rw [upd_at, if_pos y], by rw [upd_at, if_pos rfl, y]⟩
              · rw [upd_at, if_neg y, upd_at]
                by_cases y2 : c' = c
                · rw [if_pos y2]; exact Or.inl rfl
                · rw [if_neg y2]
                  rcases h4 c' hc' with q | ⟨i, q1, q2, q3⟩
                  · exact Or.inl q
                  · have i0 : i ≠ 0 := fun e => by
                      subst e
                      exact y2 ((nI_eq (by omega) (by omega)).mp (q3.symm.trans c2))
                    have i1 : i ≠ s - 1 := fun e => by
                      subst e
                      exact y ((nI_eq (by omega) (by omega)).mp (q3.symm.trans v2))
                    exact Or.inr ⟨i, by omega, q2, by rw [upd_at, if_neg i0]; exact q3⟩
          · refine ⟨fun i i0 hi hne => ?_, fun h0 => absurd h0 (by omega)⟩
            have := hOr i i0 (by omega)
            simp only [hpG] at this ⊢
            rw [qv, a34, a2, upd_at, if_neg hne, upd_at, if_neg (by omega)]
            exact this
          · have es' : s' = s - 1 := (nI_eq (by omega) (by omega)).mp (b1.symm.trans a73)
            subst es'
            have m1 : w'.1 1 = w.1 1 := (b2.1 1 (by simp)).trans (ao 1 (by simp))
            have m2 : cM w' = cM w := by unfold cM; rw [m1]
            rw [o34]
            refine hq1 c w' c1 hin hmin ⟨fun q hq => ?_, fun j hj => ?_, fun q _ => by rw [b2.2, a2]⟩ (b2.2.trans a2) ⟨s - 1, ?_, by rw [m2, ← aM]; exact b3, ?_⟩ (fun z' hz' => ?_)
            · rw [b2.1 q (by simp at hq ⊢; omega), ao q (by simp at hq ⊢; omega)]
            · rw [b2.1 7 (by simp)]; exact a7 j hj
            · rw [b2.1 7 (by simp)]; exact a73
            · intro i i0 hi
              have := b4 i i0 hi
              simp only [hpG] at this ⊢
              rw [b2.2]; exact this
            · show ¬ w'.1 35 z' = -1 ↔ _
              rw [b5 z' (by rw [aM]; exact hz'), qv, a35, upd_at]
              by_cases y : z' = v
              · rw [if_pos y]
                exact ⟨fun _ => ⟨fun e => nI_m1 (by omega) (v3.symm.trans (by rw [← y]; exact e)), fun e => hvc (y.symm.trans e)⟩, fun _ => nI_m1 (by omega)⟩
              · rw [if_neg y, upd_at]
                by_cases y2 : z' = c
                · rw [if_pos y2]
                  exact ⟨fun t => absurd rfl t, fun t => absurd y2 t.2⟩
                · rw [if_neg y2]
                  exact ⟨fun t => ⟨t, y2⟩, fun t => t.1⟩
        rw [← hwa] at hsink
        conv => whnf
        exact hsink
  · exact h.elim
theorem ha_X4_take : ∀ As w P, T_X4_take As w P → qq_wd As ≤ 2 := by
  intro As w P h
  unfold T_X4_take at h
  split at h
  · exact Nat.le_of_ble_eq_true rfl
  · exact h.elim
theorem hv_X4_take : ∀ As w P, T_X4_take As w P → ∃ (k : Nat) (r : List Value) (fs : List Nat), As = .ref k :: r ∧ ww_sh[k]? = some (.inr (4, fs)) := by
  intro As w P h
  unfold T_X4_take at h
  split at h
  · exact ⟨_, _, _, rfl, rfl⟩
  · exact h.elim
set_option maxRecDepth 100000 in
theorem M_X4_take (l : Launch) : qq_M l ww_T ww_N vwCl ww_sh ww_ro ww_zs yX4_take cX4_take 2 (some .int) (ww_rm 2) T_X4_take := by
  refine qq_mk (host := RX7) (is := ki_X4_take) (cs := cs_X4_take) (by decide) ww_k1 wl_X4 ww_so ww_so2 kc_X4_take kv_X4_take kg_X4_take ?_ ha_X4_take bd_X4_take
  intro k i q hi hq
  match k, hi, hq with
  | 0, hi, hq => cases hi; cases hq; exact fun p e s m args below meth c D tys tC ad Q pc X hdg => qq_cV (ci := 4) X ww_gd (M_X4_sink l) kf_X4_sink.1 (Or.inl (ww_a3 (i := 212) (w := Cond.methodLink RX4 41 yX4_sink) rfl rfl)) kf_X4_sink.2.1 kf_X4_sink.2.2.1 kf_X4_sink.2.2.2 ⟨by decide, by decide, by decide +kernel⟩ rfl rfl rfl ⟨by decide, by decide⟩ ⟨Nat.le_refl _, Nat.le_refl _⟩ hv_X4_sink hdg
  | n + 1, hi, hq => simp [cs_X4_take] at hq
