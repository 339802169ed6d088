abbrev cs_X2_findWholes : List (Nat × qq_t) := [(4, T_X2_by), (2, T_J9_min_f86c9)]
/-- the least by any fact -/
def wMn (w : qq_w) (k n e : Nat) (x : Int64) : Prop := ∃ X, x = lN X ∧ (X ≤ 1000000000000 ∨ X = 2000000000000) ∧ (∀ d, d < k → X ≤ lq (cBy w n d e)) ∧ (X = 2000000000000 ∨ ∃ d, d < k ∧ cBy w n d e = lN X)
theorem cBy_ok {w : qq_w} {N M n d e p : Nat} (hP : cPW w N) (hO : lOk (w.2 33) 2000000000000 (cM w)) (hE : lOk (w.2 22) 2000000000000 (13 * M)) (hn : n < N) (hd : d < 13) (he : e < 13) (ep : cX w n 0 = nI p) (hp : p < M) (hM : M ≤ 8) : ∃ A B, w.2 22 (13 * p + d) = lN A ∧ (A ≤ 1000000000000 ∨ A = 2000000000000) ∧ w.2 33 (169 * n + 13 * d + e) = lN B ∧ (B ≤ 1000000000000 ∨ B = 2000000000000) ∧ cBy w n d e = lN (if A ≤ 1000000000000 ∧ B ≤ 1000000000000 then lcap (A + B) else 2000000000000) := by
  have hN := hP.2.1
  obtain ⟨A, eA, hA⟩ := hE (13 * p + d) (by omega)
  obtain ⟨B, eB, hB⟩ := hO (169 * n + 13 * d + e) (by rw [cM_N hP]; omega)
  refine ⟨A, B, eA, hA, eB, hB, ?_⟩
  unfold cBy cEn cLv
  rw [ep, qn_nI (by omega), eA, eB]
  by_cases z1 : A ≤ 1000000000000
  · by_cases z2 : B ≤ 1000000000000
    · have n1 : ¬ lN A = 2000000000000 := fun y => by
        have := (lL_eq (b := 2000000000000) (by omega) (by omega)).mp y
        omega
      have n2 : ¬ lN B = 2000000000000 := fun y => by
        have := (lL_eq (b := 2000000000000) (by omega) (by omega)).mp y
        omega
      rw [if_neg (fun y : lN A = 2000000000000 ∨ lN B = 2000000000000 => y.elim n1 n2), if_pos ⟨z1, z2⟩]
      exact lfar_sum rfl rfl z1 z2
    · have : B = 2000000000000 := by omega
      rw [if_pos (show lN A = 2000000000000 ∨ lN B = 2000000000000 from Or.inr (by rw [this]; rfl)), if_neg (fun y => z2 y.2)]
      rfl
  · have : A = 2000000000000 := by omega
    rw [if_pos (show lN A = 2000000000000 ∨ lN B = 2000000000000 from Or.inl (by rw [this]; rfl)), if_neg (fun y => z1 y.1)]
    rfl
def T_X2_findWholes : qq_t := fun As w P => match As with
  | [.ref 4] => (cPW w (qn (w.1 1 10)) ∧ lOk (w.2 33) 2000000000000 (cM w) ∧ lOk (w.2 22) 2000000000000 (13 * qn (w.1 1 9)) ∧ vp_in (w.1 1 9) 9 ∧ ∀ n, n < qn (w.1 1 10) → ∃ p, p < qn (w.1 1 9) ∧ cX w n 0 = nI p) ∧ ∀ w', w'.1 = w.1 → (∀ q, q ≠ 24 → w'.2 q = w.2 q) → (∀ n e, n < qn (w.1 1 10) → e < 13 → wMn w 13 n e (w'.2 24 (13 * n + e))) → P none w'
  | _ => False
theorem cBy_e {w w1 : qq_w} (o : w1.1 = w.1) (o2 : ∀ q, q ≠ 24 → w1.2 q = w.2 q) (n d e : Nat) : cBy w1 n d e = cBy w n d e := by
  unfold cBy cEn cLv cX
  rw [o, o2 22 (by decide), o2 33 (by decide)]
theorem fw_28 {P : Option Value → qq_w → Prop} {K : Nat → qq_L → List Value → qq_w → Prop} (S : qq_Sat ww_sh ww_ro cs_X2_findWholes (qq_at 79 kd_X2_findWholes) none P K) {w w1 : qq_w} {x1 x2 : Int32} {n e N M p : Nat} (hP : cPW w N) (hO : lOk (w.2 33) 2000000000000 (cM w)) (hE : lOk (w.2 22) 2000000000000 (13 * M)) (hM : M ≤ 8) (e1 : x1 = nI n) (hn : n < N) (e2 : x2 = nI e) (he : e < 13) (ep : cX w n 0 = nI p) (hp : p < M) (o : w1.1 = w.1) (o2 : ∀ q, q ≠ 24 → w1.2 q = w.2 q)
    (hk : ∀ x3, wMn w 13 n e x3 → K 15 [(0, .ref 4), (1, .int x1), (2, .int (x2 + 1))] [] (qq_ul w1 24 (13 * n + e) x3)) :
    ∀ m i, i + m = 13 → ∀ (x3 : Int64) (x5 : Int32), x5 = nI i → wMn w i n e x3 → K 28 [(0, .ref 4), (1, .int x1), (2, .int x2), (3, .long x3), (5, .int x5)] [] w1 := by
  have hN := hP.2.1
  intro m
  induction m with
  | zero =>
    intro i hi x3 x5 e5 h1
    have : i = 13 := by omega
    subst this
    have ei : x1 * 13 + x2 = nI (13 * n + e) := nI_ml e1 e2 (nI_lit 13)
    refine qq_go_ok S (fun pc => Nat.beq pc 28 || Nat.beq pc 15) 60 ?_
    conv => whnf
    refine br_t (i_ge 13 e5 (by omega) (by omega)) ?_
    conv => whnf
    refine ⟨i_in 832 ei (by omega) (by decide), ?_⟩
    conv => whnf
    have := hk x3 h1
    rw [← i_c ei (by omega)] at this
    exact qq_wk S this ⟨rfl, rfl, rfl, trivial⟩
  | succ m ih =>
    intro i hi x3 x5 e5 h1
    obtain ⟨A, B, -, -, -, -, hBy⟩ := cBy_ok hP hO hE hn (show i < 13 by omega) he ep hp hM
    obtain ⟨Y, eY, hY⟩ : ∃ Y, cBy w n i e = lN Y ∧ (Y ≤ 1000000000000 ∨ Y = 2000000000000) := by
      refine ⟨_, hBy, ?_⟩
      split
      · exact Or.inl (lcap_le _)
      · exact Or.inr rfl
    have q1 : qn x1 = n := by rw [e1]; exact qn_nI (by omega)
    have q2 : qn x2 = e := by rw [e2]; exact qn_nI (by omega)
    have q5 : qn x5 = i := by rw [e5]; exact qn_nI (by omega)
    have x13 : cX w1 n 0 = nI p := by unfold cX; rw [o]; exact ep
    refine qq_go_ok S (fun pc => Nat.beq pc 28) 60 ?_
    conv => whnf
    refine br_f (i_nge 13 e5 (by omega) (by omega)) ?_
    conv => whnf
    refine ⟨⟨i_in 64 e1 (by omega) (by decide), i_in 13 e5 (by omega) (by decide), i_in 13 e2 (by omega) (by decide), by rw [q1]; exact i_in 8 x13 (by omega) (by decide)⟩, ?_⟩
    conv => whnf
    have eb : cBy w1 (qn x1) (qn x5) (qn x2) = lN Y := by rw [q1, q5, q2, cBy_e o o2]; exact eY
    obtain ⟨X, eX, hX, hX2, hX3⟩ := h1
    have hlt : cBy w1 (qn x1) (qn x5) (qn x2) < x3 ↔ Y < X := by rw [eb, eX]; exact lL_lt (by omega) (by omega)
    refine qq_wk S (ih (i + 1) (by omega) (if cBy w1 (qn x1) (qn x5) (qn x2) < x3 then cBy w1 (qn x1) (qn x5) (qn x2) else x3) _ (i_s e5) ?_) ⟨rfl, rfl, rfl, rfl, rfl, trivial⟩
    by_cases z : Y < X
    · rw [if_pos (hlt.mpr z)]
      refine ⟨Y, eb, hY, fun d hd => ?_, ?_⟩
      · by_cases q : d = i
        · rw [q, eY, lq_lN (by omega)]; exact Nat.le_refl _
        · have := hX2 d (by omega)
          omega
      · exact Or.inr ⟨i, by omega, eY⟩
    · rw [if_neg (fun y => z (hlt.mp y))]
      refine ⟨X, eX, hX, fun d hd => ?_, ?_⟩
      · by_cases q : d = i
        · rw [q, eY, lq_lN (by omega)]; omega
        · exact hX2 d (by omega)
      · rcases hX3 with y | ⟨d, y1, y2⟩
        · exact Or.inl y
        · exact Or.inr ⟨d, by omega, y2⟩
theorem fw_15 {P : Option Value → qq_w → Prop} {K : Nat → qq_L → List Value → qq_w → Prop} (S : qq_Sat ww_sh ww_ro cs_X2_findWholes (qq_at 79 kd_X2_findWholes) none P K) {w : qq_w} {x1 : Int32} {n N M p : Nat} (hP : cPW w N) (hO : lOk (w.2 33) 2000000000000 (cM w)) (hE : lOk (w.2 22) 2000000000000 (13 * M)) (hM : M ≤ 8) (e1 : x1 = nI n) (hn : n < N) (ep : cX w n 0 = nI p) (hp : p < M)
    (hk : ∀ w1, w1.1 = w.1 → (∀ q, q ≠ 24 → w1.2 q = w.2 q) → (∀ n' e, n' < n + 1 → e < 13 → wMn w 13 n' e (w1.2 24 (13 * n' + e))) → K 2 [(0, .ref 4), (1, .int (x1 + 1))] [] w1) :
    ∀ m i, i + m = 13 → ∀ (x2 : Int32) (w1 : qq_w), x2 = nI i → w1.1 = w.1 → (∀ q, q ≠ 24 → w1.2 q = w.2 q) → (∀ n' e, e < 13 → 13 * n' + e < 13 * n + i → wMn w 13 n' e (w1.2 24 (13 * n' + e))) → K 15 [(0, .ref 4), (1, .int x1), (2, .int x2)] [] w1 := by
  intro m
  induction m with
  | zero =>
    intro i hi x2 w1 e2 o o2 h1
    have : i = 13 := by omega
    subst this
    refine qq_go_ok S (fun pc => Nat.beq pc 15 || Nat.beq pc 2) 60 ?_
    conv => whnf
    refine br_t (i_ge 13 e2 (by omega) (by omega)) ?_
    conv => whnf
    exact qq_wk S (hk w1 o o2 (fun n' e h2 h3 => h1 n' e h3 (by omega))) ⟨rfl, rfl, trivial⟩
  | succ m ih =>
    intro i hi x2 w1 e2 o o2 h1
    refine qq_go_ok S (fun pc => Nat.beq pc 28) 60 ?_
    conv => whnf
    refine br_f (i_nge 13 e2 (by omega) (by omega)) ?_
    conv => whnf
    refine qq_wk S (fw_28 S hP hO hE hM e1 hn e2 (by omega) ep hp o o2 (fun x3 h3 => ih (i + 1) (by omega) _ _ (i_s e2) o (fun q hq => ?_) (fun n' e he hlt => ?_)) 13 0 rfl 2000000000000 _ rfl ⟨2000000000000, rfl, Or.inr rfl, fun d hd => absurd hd (by omega), Or.inl rfl⟩) ⟨rfl, rfl, rfl, rfl, rfl, trivial⟩
    · rw [← o2 q hq]
      show va_up w1.2 24 _ q = _
      simp only [va_up, hq, if_false]
    · have e24 : (qq_ul w1 24 (13 * n + i) x3).2 24 (13 * n' + e) = if 13 * n' + e = 13 * n + i then x3 else w1.2 24 (13 * n' + e) := updL_at _ _ _ _
      rw [e24]
      by_cases q : 13 * n' + e = 13 * n + i
      · rw [if_pos q]
        have a1 : n' = n := by omega
        have a2 : e = i := by omega
        rw [a1, a2]
        exact h3
      · rw [if_neg q]
        exact h1 n' e he (by omega)
theorem fw_2 {P : Option Value → qq_w → Prop} {K : Nat → qq_L → List Value → qq_w → Prop} (S : qq_Sat ww_sh ww_ro cs_X2_findWholes (qq_at 79 kd_X2_findWholes) none P K) {w : qq_w} {N M : Nat} (hP : cPW w N) (hO : lOk (w.2 33) 2000000000000 (cM w)) (hE : lOk (w.2 22) 2000000000000 (13 * M)) (hM : M ≤ 8) (hOw : ∀ n, n < N → ∃ p, p < M ∧ cX w n 0 = nI p)
    (hq : ∀ w1, w1.1 = w.1 → (∀ q, q ≠ 24 → w1.2 q = w.2 q) → (∀ n e, n < N → e < 13 → wMn w 13 n e (w1.2 24 (13 * n + e))) → P none w1) :
    ∀ m i, i + m = N → ∀ (x1 : Int32) (w1 : qq_w), x1 = nI i → w1.1 = w.1 → (∀ q, q ≠ 24 → w1.2 q = w.2 q) → (∀ n e, n < i → e < 13 → wMn w 13 n e (w1.2 24 (13 * n + e))) → K 2 [(0, .ref 4), (1, .int x1)] [] w1 := by
  have hN := hP.2.1
  intro m
  induction m with
  | zero =>
    intro i hi x1 w1 e1 o o2 h1
    have : i = N := by omega
    subst this
    have e10 : w1.1 1 10 = nI i := by rw [o]; exact hP.1
    refine qq_go_ok S (fun pc => Nat.beq pc 2) 60 ?_
    conv => whnf
    refine br_t (i_ge' e1 e10 (by omega) (by omega)) ?_
    conv => whnf
    exact hq w1 o o2 h1
  | succ m ih =>
    intro i hi x1 w1 e1 o o2 h1
    have e10 : w1.1 1 10 = nI N := by rw [o]; exact hP.1
    obtain ⟨p, hp, ep⟩ := hOw i (by omega)
    refine qq_go_ok S (fun pc => Nat.beq pc 15) 60 ?_
    conv => whnf
    refine br_f (i_lt' e1 e10 (by omega) (by omega)) ?_
    conv => whnf
    exact qq_wk S (fw_15 S hP hO hE hM e1 (by omega) ep hp (fun w2 k1 k2 k3 => ih (i + 1) (by omega) _ w2 (i_s e1) k1 k2 k3) 13 0 rfl _ w1 rfl o o2 (fun n' e he hlt => h1 n' e (by omega) he)) ⟨rfl, rfl, rfl, trivial⟩
set_option maxHeartbeats 4000000 in
set_option maxRecDepth 100000 in
theorem bd_X2_findWholes : ∀ As w P K, qq_Sat ww_sh ww_ro cs_X2_findWholes (qq_at 79 kd_X2_findWholes) none P K → T_X2_findWholes As w P → K 0 (lv_args 0 As) [] w := by
  intro As w P K S h
  unfold T_X2_findWholes at h
  split at h
  · skip
    obtain ⟨⟨hP, hO, hE, hpr, hOw⟩, hq⟩ := h
    have hM := (qn_eq hpr (by decide)).2
    refine qq_go_ok S (fun pc => Nat.beq pc 2) 60 ?_
    conv => whnf
    exact qq_wk S (fw_2 S hP hO hE (by omega) hOw hq (qn (w.1 1 10)) 0 (Nat.zero_add _) _ w rfl rfl (fun _ _ => rfl) (fun n e hn => absurd hn (by omega))) ⟨rfl, rfl, trivial⟩
  · exact h.elim
theorem ha_X2_findWholes : ∀ As w P, T_X2_findWholes As w P → qq_wd As ≤ 6 := by
  intro As w P h
  unfold T_X2_findWholes at h
  split at h
  · exact Nat.le_of_ble_eq_true rfl
  · exact h.elim
theorem hv_X2_findWholes : ∀ As w P, T_X2_findWholes As w P → ∃ (k : Nat) (r : List Value) (fs : List Nat), As = .ref k :: r ∧ ww_sh[k]? = some (.inr (2, fs)) := by
  intro As w P h
  unfold T_X2_findWholes at h
  split at h
  · exact ⟨_, _, _, rfl, rfl⟩
  · exact h.elim
set_option maxRecDepth 100000 in
theorem M_X2_findWholes (l : Launch) : qq_M l ww_T ww_N vwCl ww_sh ww_ro ww_zs yX2_findWholes cX2_findWholes 6 none (ww_rm 3) T_X2_findWholes := by
  refine qq_mk (host := RX7) (is := ki_X2_findWholes) (cs := cs_X2_findWholes) (by decide) ww_k1 wl_X2 ww_so ww_so2 kc_X2_findWholes kv_X2_findWholes kg_X2_findWholes ?_ ha_X2_findWholes bd_X2_findWholes
  intro k i q hi hq
  match k, hi, hq with
  | 0, hi, hq => cases hi; cases hq; exact fun p e s m args below meth c D tys tC ad Q pc X hdg => qq_cV (ci := 2) X ww_gd (M_X2_by l) kf_X2_by.1 (Or.inl (ww_a4 (i := 39) (w := Cond.methodLink RX2 167 yX2_by) rfl rfl)) kf_X2_by.2.1 kf_X2_by.2.2.1 kf_X2_by.2.2.2 ⟨by decide, by decide, by decide +kernel⟩ rfl rfl rfl ⟨by decide, by decide⟩ ⟨Nat.le_refl _, Nat.le_refl _⟩ hv_X2_by hdg
  | 1, hi, hq => cases hi; cases hq; exact cf_mminl (by decide) (ww_a3 (i := 235) (w := Cond.methodLink RX2 63 Lib.MathLoose.min_long.x) rfl rfl)
  | n + 2, hi, hq => simp [cs_X2_findWholes] at hq
/-- what is reached is closed -/
def cCl (w : qq_w) (N : Nat) : Prop :=
  (∀ n d e t g, n < N → d < 13 → e < 13 → bt (w.1 20 (13 * n + d)) e = true → cStp w n e t g → t < 64 → bt (w.1 20 (13 * t + d)) g = true) ∧
  (∀ c d e l g h r g', c < N → d < 13 → e < 13 → h < 13 → l < 64 → r < 64 → bt (w.1 20 (13 * c + d)) e = true → cThrR w c e l g h r g' → bt (w.1 20 (13 * l + g)) h = true → bt (w.1 20 (13 * r + d)) g' = true) ∧
  (∀ c d e m g, c < N → d < 13 → e < 13 → m < 64 → bt (w.1 20 (13 * c + d)) e = true → cGoI w c e m g → bt (w.1 20 (13 * m + g)) g = true) ∧
  (∀ m f, m < 64 → cBg w m f → bt (w.1 20 (13 * m + f)) f = true)
theorem cLD_in {w : qq_w} {N : Nat} (hP : cPW w N) (hfs : ∀ j, fs (w.1 19 j)) (hE : ∀ p, p < qn (w.1 1 9) → ∃ l, l < N ∧ w.1 12 p = nI l) {n d e L : Nat} (h : cLD w n d e L) : n < N ∧ d < 13 ∧ e < 13 ∧ L ≤ 1000000000000 := by
  have hN := hP.2.1
  refine h (fun n d e L => n < N ∧ d < 13 ∧ e < 13 ∧ L ≤ 1000000000000) ?_ ?_ ?_
  · intro n d hn h
    obtain ⟨q1, ⟨p, q2, q3⟩, q4⟩ := h
    obtain ⟨l, hl, el⟩ := hE p q2
    have : n = l := (nI_eq (by omega) (by omega)).mp (q3.symm.trans el)
    subst this
    exact ⟨hl, q1, q1, by omega⟩
  · intro n d e t g a hn ht h1 h2
    obtain ⟨q1, q2, q3, q4⟩ := h1
    have hg := fs_lt (hfs _) h2.2
    refine ⟨?_, q2, hg, lcap_le _⟩
    rcases h2.1 with ⟨-, -, k⟩ | ⟨k1, k2⟩
    · exact hP.2.2.2 n t q1 k
    · obtain ⟨p, r, l, y1, y2, y3, y4, y5, -⟩ := hP.2.2.1 n q1 k1
      have : t = r := (nI_eq (by omega) (by omega)).mp (k2.symm.trans y5)
      omega
  · intro c d e l g h r g' a b hc hl hr h1 h2 h3
    obtain ⟨q1, q2, q3, q4⟩ := h1
    have hg := fs_lt (hfs _) h2.2.2.2.2
    obtain ⟨p, r', l', y1, y2, y3, y4, y5, -⟩ := hP.2.2.1 c q1 h2.1
    have : r = r' := (nI_eq (by omega) (by omega)).mp (h2.2.2.1.symm.trans y5)
    exact ⟨by omega, q2, hg, lcap_le _⟩
theorem cLD_reach {w : qq_w} {N : Nat} (hP : cPW w N) (hfs : ∀ j, fs (w.1 19 j)) (hE : ∀ p, p < qn (w.1 1 9) → ∃ l, l < N ∧ w.1 12 p = nI l) (hC : cCl w N) {n d e L : Nat} (h : cLD w n d e L) : bt (w.1 20 (13 * n + d)) e = true := by
  have hN := hP.2.1
  have key : (n < N ∧ d < 13 ∧ e < 13) ∧ bt (w.1 20 (13 * n + d)) e = true := by
    refine h (fun n d e L => (n < N ∧ d < 13 ∧ e < 13) ∧ bt (w.1 20 (13 * n + d)) e = true) ?_ ?_ ?_
    · intro n d hn h
      have a := cLD_in hP hfs hE (LDer.ent (Ent := cEnt w) (Stp := cStp w) (Thr := cThrR w) h hn)
      exact ⟨⟨a.1, a.2.1, a.2.2.1⟩, h.2.2⟩
    · intro n d e t g a hn ht h1 h2
      obtain ⟨⟨q1, q2, q3⟩, q4⟩ := h1
      have hg := fs_lt (hfs _) h2.2
      refine ⟨⟨?_, q2, hg⟩, hC.1 n d e t g q1 q2 q3 q4 h2 ht⟩
      rcases h2.1 with ⟨-, -, k⟩ | ⟨k1, k2⟩
      · exact hP.2.2.2 n t q1 k
      · obtain ⟨p, r, l, y1, y2, y3, y4, y5, -⟩ := hP.2.2.1 n q1 k1
        have : t = r := (nI_eq (by omega) (by omega)).mp (k2.symm.trans y5)
        omega
    · intro c d e l g h r g' a b hc hl hr h1 h2 h3
      obtain ⟨⟨q1, q2, q3⟩, q4⟩ := h1
      have hg := fs_lt (hfs _) h2.2.2.2.2
      obtain ⟨p, r', l', y1, y2, y3, y4, y5, -⟩ := hP.2.2.1 c q1 h2.1
      have : r = r' := (nI_eq (by omega) (by omega)).mp (h2.2.2.1.symm.trans y5)
      exact ⟨⟨by omega, q2, hg⟩, hC.2.1 c d e l g h r g' q1 q2 q3 h3.1.2.2 hl hr q4 h2 h3.2⟩
  exact key.2
/-- closed lengths are least -/
def clS (w : qq_w) (N : Nat) : Prop := ∀ n d e a, n < N → d < 13 → e < 13 → w.2 33 (169 * n + 13 * d + e) = lN a → a ≤ 1000000000000 → ∀ t g, t < 64 → cStp w n e t g → lq (w.2 33 (169 * t + 13 * d + g)) ≤ lcap (a + 1)
def clT (w : qq_w) (N : Nat) : Prop := ∀ c d e l g h r g' a b, c < N → d < 13 → e < 13 → l < 64 → r < 64 → h < 13 → cThrR w c e l g h r g' → w.2 33 (169 * c + 13 * d + e) = lN a → a ≤ 1000000000000 → w.2 33 (169 * l + 13 * g + h) = lN b → b ≤ 1000000000000 → lq (w.2 33 (169 * r + 13 * d + g')) ≤ lcap (a + b + 2)
theorem cL_min {w : qq_w} {N : Nat} (hP : cPW w N) (hfs : ∀ j, fs (w.1 19 j)) (hE : ∀ p, p < qn (w.1 1 9) → ∃ l, l < N ∧ w.1 12 p = nI l) (hO : lOk (w.2 33) 2000000000000 (cM w)) (hS : cSnd w (cLDc w)) (h0 : ∀ n d, n < 64 → cEnt w n d → w.2 33 (169 * n + 13 * d + d) = lN 0) (hC1 : clS w N) (hC2 : clT w N) {n d e : Nat} (hn : n < N) (hd : d < 13) (he : e < 13) : lMin (w.2 33 (169 * n + 13 * d + e)) 2000000000000 (cLD w n d e) := by
  have hN := hP.2.1
  have hM := cM_N hP
  have key : ∀ n d e L, cLD w n d e L → (n < N ∧ d < 13 ∧ e < 13 ∧ L ≤ 1000000000000) ∧ lq (w.2 33 (169 * n + 13 * d + e)) ≤ L := by
    intro n d e L h
    refine h (fun n d e L => (n < N ∧ d < 13 ∧ e < 13 ∧ L ≤ 1000000000000) ∧ lq (w.2 33 (169 * n + 13 * d + e)) ≤ L) ?_ ?_ ?_
    · intro n d hn h
      refine ⟨cLD_in hP hfs hE (LDer.ent (Ent := cEnt w) (Stp := cStp w) (Thr := cThrR w) h hn), ?_⟩
      rw [h0 n d hn h]
      exact Nat.le_refl _
    · intro n d e t g a hn ht h1 h2
      obtain ⟨⟨q1, q2, q3, q4⟩, q5⟩ := h1
      have hg := fs_lt (hfs _) h2.2
      obtain ⟨A, eA, hA⟩ := hO (169 * n + 13 * d + e) (by rw [hM]; omega)
      rw [eA, lq_lN (by omega)] at q5
      have z := hC1 n d e A q1 q2 q3 eA (by omega) t g ht h2
      refine ⟨⟨?_, q2, hg, lcap_le _⟩, Nat.le_trans z (lcap_mono (by omega))⟩
      rcases h2.1 with ⟨-, -, k⟩ | ⟨k1, k2⟩
      · exact hP.2.2.2 n t q1 k
      · obtain ⟨p, r, l, y1, y2, y3, y4, y5, -⟩ := hP.2.2.1 n q1 k1
        have : t = r := (nI_eq (by omega) (by omega)).mp (k2.symm.trans y5)
        omega
    · intro c d e l g h r g' a b hc hl hr h1 h2 h3
      obtain ⟨⟨q1, q2, q3, q4⟩, q5⟩ := h1
      obtain ⟨⟨p1, p2, p3, p4⟩, p5⟩ := h3
      have hg := fs_lt (hfs _) h2.2.2.2.2
      obtain ⟨A, eA, hA⟩ := hO (169 * c + 13 * d + e) (by rw [hM]; omega)
      rw [eA, lq_lN (by omega)] at q5
      obtain ⟨B, eB, hB⟩ := hO (169 * l + 13 * g + h) (by rw [hM]; omega)
      rw [eB, lq_lN (by omega)] at p5
      have z := hC2 c d e l g h r g' A B q1 q2 q3 hl hr p3 h2 eA (by omega) eB (by omega)
      obtain ⟨p, r', l', y1, y2, y3, y4, y5, -⟩ := hP.2.2.1 c q1 h2.1
      have : r = r' := (nI_eq (by omega) (by omega)).mp (h2.2.2.1.symm.trans y5)
      exact ⟨⟨by omega, q2, hg, lcap_le _⟩, Nat.le_trans z (lcap_mono (by omega))⟩
  refine lMin_of (by omega) (by omega) (hO _ (by rw [hM]; omega)) (fun L e1 h1 => ?_) (fun L h => ⟨(key n d e L h).1.2.2.2, (key n d e L h).2⟩)
  obtain ⟨n', d', e', z1, z2, z3, z4⟩ := hS _ L (by rw [hM]; omega) e1 h1
  have : n' = n := by omega
  subst this
  have : d' = d := by omega
  subst this
  have : e' = e := by omega
  subst this
  exact z4
theorem lcap_0 {a : Nat} (h : a ≤ 1000000000000) : lcap (a + 0) = a := by
  unfold lcap
  split <;> omega
theorem cW_min {w : qq_w} {N M : Nat} (hP : cPW w N) (hfs : ∀ j, fs (w.1 19 j)) (hOw : cOwn w N M) (hM8 : M ≤ 8) (e9 : w.1 1 9 = nI M) (hM0 : 0 < M) (hE : cE0 w N) (hC : cCl w N) (hO : lOk (w.2 33) 2000000000000 (cM w)) (hL : ∀ n d e, n < N → d < 13 → e < 13 → lMin (w.2 33 (169 * n + 13 * d + e)) 2000000000000 (cLD w n d e)) (hO2 : lOk (w.2 22) 2000000000000 (13 * M)) (hS : ∀ c L, c < 13 * M → w.2 22 c = lN L → L ≤ 1000000000000 → cEDc w N c L) (hb : ∀ f, f < 13 → bt (cBegin w) f = true → w.2 22 f = lN 0) (hcl : ∀ p d a, p < M → d < 13 → w.2 22 (13 * p + d) = lN a → a ≤ 1000000000000 → ∀ c e, c < N → e < 13 → eClC w w p d a c e) (hw : ∀ n e, n < N → e < 13 → wMn w 13 n e (w.2 24 (13 * n + e))) :
    (∀ n f, n < N → f < 13 → lMin (w.2 24 (13 * n + f)) 2000000000000 (cWD w N n f)) ∧ ∀ p d m, p < M → d < 13 → m < N → w.1 12 p = nI m → lMin (w.2 22 (13 * p + d)) 2000000000000 (cWD w N m d) := by
  have hN := hP.2.1
  have qM : qn (w.1 1 9) = M := by rw [e9]; exact qn_nI (by omega)
  have hE1 : ∀ p, p < qn (w.1 1 9) → ∃ l, l < N ∧ w.1 12 p = nI l := fun p hp => by
    obtain ⟨l, a1, a2, -⟩ := hE.1 p hp
    exact ⟨l, a1, a2⟩
  have kn : ∀ n d e b, n < N → d < 13 → e < 13 → w.2 33 (169 * n + 13 * d + e) = lN b → b ≤ 1000000000000 → cLD w n d e b := fun n d e b h1 h2 h3 h4 h5 => by
    rcases hL n d e h1 h2 h3 with ⟨L, z1, z2, z3, -⟩ | ⟨z1, -⟩
    · rw [h4] at z1
      have := (lL_eq (by omega) (by omega)).mp z1
      subst this
      exact z3
    · rw [h4] at z1
      have := (lL_eq (by omega) (by omega)).mp z1
      omega
  have zr : ∀ m d, m < N → cEnt w m d → w.2 33 (169 * m + 13 * d + d) = lN 0 := fun m d hm h => by
    have hD := LDer.ent (Ent := cEnt w) (Stp := cStp w) (Thr := cThrR w) h (by omega)
    rcases hL m d d hm h.1 h.1 with ⟨L, z1, z2, z3, z4⟩ | ⟨-, z2⟩
    · have := z4 0 hD
      have : L = 0 := by omega
      subst this
      exact z1
    · exact absurd hD (z2 0)
  have atE : ∀ p m d' d b, p < M → m < N → w.1 12 p = nI m → d' < 13 → d < 13 → w.2 33 (169 * m + 13 * d' + d) = lN b → b ≤ 1000000000000 → d = d' ∧ b = 0 := fun p m d' d b hp hm em hd' hd h1 h2 => by
    have hr := cLD_reach hP hfs hE1 hC (kn m d' d b hm hd' hd h1 h2)
    have hdd := hE.2 p m d' d (by rw [qM]; exact hp) em hm hd' hr
    subst hdd
    have := zr m d hm ⟨hd, ⟨p, by rw [qM]; exact hp, em⟩, hr⟩
    rw [h1] at this
    exact ⟨rfl, (lL_eq (by omega) (by omega)).mp this⟩
  have key : ∀ n f L, cWD w N n f L → (n < N ∧ f < 13 ∧ L ≤ 1000000000000) ∧ ∃ p d A B, p < M ∧ d < 13 ∧ cX w n 0 = nI p ∧ w.2 22 (13 * p + d) = lN A ∧ A ≤ 1000000000000 ∧ w.2 33 (169 * n + 13 * d + f) = lN B ∧ B ≤ 1000000000000 ∧ lcap (A + B) ≤ L := by
    intro n f L h
    refine h (fun n f L => (n < N ∧ f < 13 ∧ L ≤ 1000000000000) ∧ ∃ p d A B, p < M ∧ d < 13 ∧ cX w n 0 = nI p ∧ w.2 22 (13 * p + d) = lN A ∧ A ≤ 1000000000000 ∧ w.2 33 (169 * n + 13 * d + f) = lN B ∧ B ≤ 1000000000000 ∧ lcap (A + B) ≤ L) ?_ ?_ ?_
    · intro n f hn h
      obtain ⟨l, hl, el, k0, ow⟩ := hE.1 0 (by rw [qM]; exact hM0)
      have : n = l := (nI_eq (by omega) (by omega)).mp (h.2.1.symm.trans el)
      subst this
      have hr := hC.2.2.2 n f hn h
      exact ⟨⟨hl, h.1, by omega⟩, 0, f, 0, 0, hM0, h.1, ow, by rw [show 13 * 0 + f = f by omega]; exact hb f h.1 h.2.2, by omega, zr n f hl ⟨h.1, ⟨0, by rw [qM]; exact hM0, el⟩, hr⟩, by omega, Nat.le_refl _⟩
    · intro n m d f a b hn hm h1 h2 h3
      obtain ⟨⟨q1, q2, q3⟩, p, d', A, B, r1, r2, r3, r4, r5, r6, r7, r8⟩ := h2
      obtain ⟨p1, p2, p3, p4, p5⟩ := h3
      obtain ⟨p', m', s1, s2, s3, s4, s5, s6⟩ := hOw.1 n p1
      have h1 : w.1 12 (qn (cX w n 0)) = nI m := h1
      rw [s3, qn_nI (by omega), s4] at h1
      have : m' = m := (nI_eq (by omega) (by omega)).mp h1
      subst this
      rw [s5] at r3
      have : p' = p := (nI_eq (by omega) (by omega)).mp r3
      subst this
      obtain ⟨e1, e2⟩ := atE p' m' d' d B r1 q1 s4 r2 q2 r6 r7
      subst e1; subst e2
      rw [lcap_0 r5] at r8
      exact ⟨⟨p1, p3, lcap_le _⟩, p', d, A, b, r1, r2, s3, r4, r5, p4, p5, lcap_mono (by omega)⟩
    · intro c f m g a hc hm h1 h2
      obtain ⟨⟨q1, q2, q3⟩, p, d, A, B, r1, r2, r3, r4, r5, r6, r7, r8⟩ := h1
      have hg := fs_lt (hfs _) h2.2.2
      obtain ⟨q, r, l, y1, y2, y3, y4, y5, y6, y7, y8, y9⟩ := hP.2.2.1 c q1 h2.1
      have em := h2.2.1
      rw [y4, qn_nI (by omega), y6] at em
      have : l = m := (nI_eq (by omega) (by omega)).mp em
      subst this
      have hqM : q < M := by
        have := hOw.2 c q1 h2.1
        rw [y4, qn_nI (by omega)] at this
        exact this
      have z := hcl p d A r1 r2 r4 r5 c f q1 q2 h2.1 r3 B g r6 r7 h2.2.2
      rw [y4, qn_nI (by omega)] at z
      obtain ⟨A2, eA2, hA2⟩ := hO2 (13 * q + g) (by omega)
      rw [eA2, lq_lN (by omega)] at z
      have hlc := lcap_le (lcap (A + B) + 1)
      have hA3 : A2 ≤ 1000000000000 := by omega
      obtain ⟨l', hl', el', -, ow⟩ := hE.1 q (by rw [qM]; exact hqM)
      have : l = l' := (nI_eq (by omega) (by omega)).mp (y6.symm.trans el')
      subst this
      have hr := cLD_reach hP hfs hE1 hC (kn c d f B q1 r2 q2 r6 r7)
      have hr2 := hC.2.2.1 c d f l g q1 r2 q2 (by omega) hr h2
      refine ⟨⟨hl', hg, lcap_le _⟩, q, g, A2, 0, hqM, hg, ow, eA2, hA3, zr l g hl' ⟨hg, ⟨q, by rw [qM]; exact hqM, y6⟩, hr2⟩, by omega, ?_⟩
      rw [lcap_0 hA3]
      exact Nat.le_trans z (lcap_mono (by omega))
  refine ⟨fun n f hn hf => ?_, fun p d m hp hd hm em => ?_⟩
  · obtain ⟨X, eX, hX, hX2, hX3⟩ := hw n f hn hf
    refine lMin_of (by omega) (by omega) ⟨X, eX, hX⟩ (fun L e1 h1 => ?_) (fun L h => ?_)
    · rw [eX] at e1
      have : X = L := (lL_eq (by omega) (by omega)).mp e1
      subst this
      rcases hX3 with y | ⟨d, y1, y2⟩
      · omega
      · obtain ⟨p, m, s1, s2, s3, s4, s5, s6⟩ := hOw.1 n hn
        obtain ⟨A, B, eA, hA, eB, hB, hBy⟩ := cBy_ok hP hO hO2 hn y1 hf s3 s1 hM8
        rw [y2] at hBy
        have hlc := lcap_le (A + B)
        have hv := (lL_eq (by omega) (by split <;> omega)).mp hBy
        by_cases hAB : A ≤ 1000000000000 ∧ B ≤ 1000000000000
        · rw [if_pos hAB] at hv
          rw [hv]
          obtain ⟨m0, hm0, em0, hW⟩ := hS (13 * p + d) A (by omega) eA hAB.1
          rw [show (13 * p + d) / 13 = p by omega] at em0
          rw [show (13 * p + d) % 13 = d by omega] at hW
          have : m0 = m := (nI_eq (by omega) (by omega)).mp (em0.symm.trans s4)
          subst this
          refine WDer.lv (m := m0) (d := d) ?_ hW ⟨hn, y1, hf, eB, hAB.2⟩
          unfold cPr
          rw [s3, qn_nI (by omega)]
          exact s4
        · rw [if_neg hAB] at hv
          omega
    · obtain ⟨⟨q1, q2, q3⟩, p, d, A, B, r1, r2, r3, r4, r5, r6, r7, r8⟩ := key n f L h
      refine ⟨q3, ?_⟩
      rw [eX, lq_lN (by omega)]
      have hh := hX2 d r2
      obtain ⟨A', B', eA, hA, eB, hB, hBy⟩ := cBy_ok hP hO hO2 hn r2 hf r3 r1 hM8
      have : A' = A := by
        rw [eA] at r4
        exact (lL_eq (by omega) (by omega)).mp r4
      subst this
      have : B' = B := by
        rw [eB] at r6
        exact (lL_eq (by omega) (by omega)).mp r6
      subst this
      have hlc := lcap_le (A' + B')
      rw [if_pos ⟨r5, r7⟩] at hBy
      rw [hBy, lq_lN (by omega)] at hh
      omega
  · refine lMin_of (by omega) (by omega) (hO2 _ (by omega)) (fun L e1 h1 => ?_) (fun L h => ?_)
    · obtain ⟨m0, hm0, em0, hW⟩ := hS (13 * p + d) L (by omega) e1 h1
      rw [show (13 * p + d) / 13 = p by omega] at em0
      rw [show (13 * p + d) % 13 = d by omega] at hW
      have : m0 = m := (nI_eq (by omega) (by omega)).mp (em0.symm.trans em)
      subst this
      exact hW
    · obtain ⟨⟨q1, q2, q3⟩, p', d', A, B, r1, r2, r3, r4, r5, r6, r7, r8⟩ := key m d L h
      refine ⟨q3, ?_⟩
      obtain ⟨l, hl, el, k0, ow⟩ := hE.1 p (by rw [qM]; exact hp)
      have : m = l := (nI_eq (by omega) (by omega)).mp (em.symm.trans el)
      subst this
      rw [ow] at r3
      have : p = p' := (nI_eq (by omega) (by omega)).mp r3
      subst this
      obtain ⟨e1, e2⟩ := atE p m d' d B hp q1 em r2 hd r6 r7
      subst e1; subst e2
      rw [lcap_0 r5] at r8
      rw [r4, lq_lN (by omega)]
      exact r8
