abbrev cs_X8_leads : List (Nat × qq_t) := []
/-- an edge leads, by the reference -/
def mLeads (w : qq_w) (a b : Int32) : Prop := ∃ k, k < qn (w.1 8 20) ∧ w.1 52 k = a ∧ w.1 53 k = b
def T_X8_leads : qq_t := fun As w P => match As with
  | [.ref 8, .int a, .int b] => vp_in (w.1 8 20) 121 ∧ (mLeads w a b → P (some (.int 1)) w) ∧ (¬ mLeads w a b → P (some (.int 0)) w)
  | _ => False
theorem lp_mleads {P : Option Value → qq_w → Prop} {K : Nat → qq_L → List Value → qq_w → Prop} (S : qq_Sat ww_sh ww_ro cs_X8_leads (qq_at 54 kd_X8_leads) (some .boolean) P K) {w : qq_w} {a b : Int32} {E : Nat} (hE : E ≤ 120) (eE : w.1 8 20 = nI E) (h1 : (∃ k, k < E ∧ w.1 52 k = a ∧ w.1 53 k = b) → P (some (.int 1)) w) (h0 : ¬ (∃ k, k < E ∧ w.1 52 k = a ∧ w.1 53 k = b) → P (some (.int 0)) w) :
    ∀ m i, i + m = E → ∀ x3 x4 : Int32, x4 = nI i → (x3 = 1 ∧ (∃ k, k < i ∧ w.1 52 k = a ∧ w.1 53 k = b)) ∨ (x3 = 0 ∧ ¬ (∃ k, k < i ∧ w.1 52 k = a ∧ w.1 53 k = b)) → K 5 [(0, .ref 8), (1, .int a), (2, .int b), (3, .int x3), (4, .int x4)] [] w := by
  intro m
  induction m with
  | zero =>
    intro i hi x3 x4 e4 h
    have : i = E := by omega
    subst this
    refine qq_go_ok S (fun pc => Nat.beq pc 5) 60 ?_
    conv => whnf
    refine br_t (i_ge' e4 eE (by omega) (by omega)) ?_
    rcases h with ⟨rfl, h⟩ | ⟨rfl, h⟩
    · conv => whnf
      exact h1 h
    · conv => whnf
      exact h0 h
  | succ m ih =>
    intro i hi x3 x4 e4 h
    have ec := i_c e4 (by omega)
    refine qq_go_ok S (fun pc => Nat.beq pc 5) 60 ?_
    conv => whnf
    refine br_f (i_lt' e4 eE (by omega) (by omega)) ?_
    rcases h with ⟨rfl, k, z1, z2⟩ | ⟨rfl, h⟩
    · conv => whnf
      refine br_nt (by decide) ?_
      conv => whnf
      exact qq_wk S (ih (i + 1) (by omega) _ _ (i_s e4) (Or.inl ⟨rfl, k, by omega, z2⟩)) ⟨rfl, rfl, rfl, rfl, rfl, trivial⟩
    · have no : ¬ (w.1 52 i = a ∧ w.1 53 i = b) → K 5 [(0, .ref 8), (1, .int a), (2, .int b), (3, .int 0), (4, .int (x4 + 1))] [] w := fun z => by
        refine ih (i + 1) (by omega) _ _ (i_s e4) (Or.inr ⟨rfl, ?_⟩)
        rintro ⟨k, z1, z2⟩
        by_cases q : k = i
        · subst q; exact z z2
        · exact h ⟨k, by omega, z2⟩
      conv => whnf
      refine br_nf rfl ?_
      conv => whnf
      refine ⟨i_in 120 e4 (by omega) (by decide), ?_⟩
      conv => whnf
      refine ⟨fun y => ?_, fun y => ?_⟩
      · have y : ¬ w.1 52 x4.toNatClampNeg = a := y
        rw [ec] at y
        conv => whnf
        exact qq_wk S (no fun z => y z.1) ⟨rfl, rfl, rfl, rfl, rfl, trivial⟩
      · have y : w.1 52 x4.toNatClampNeg = a := y
        rw [ec] at y
        conv => whnf
        refine ⟨i_in 120 e4 (by omega) (by decide), ?_⟩
        conv => whnf
        refine ⟨fun y2 => ?_, fun y2 => ?_⟩
        · have y2 : ¬ w.1 53 x4.toNatClampNeg = b := y2
          rw [ec] at y2
          conv => whnf
          exact qq_wk S (no fun z => y2 z.2) ⟨rfl, rfl, rfl, rfl, rfl, trivial⟩
        · have y2 : w.1 53 x4.toNatClampNeg = b := y2
          rw [ec] at y2
          conv => whnf
          exact qq_wk S (ih (i + 1) (by omega) _ _ (i_s e4) (Or.inl ⟨rfl, i, by omega, y, y2⟩)) ⟨rfl, rfl, rfl, rfl, rfl, trivial⟩
set_option maxHeartbeats 4000000 in
set_option maxRecDepth 100000 in
theorem bd_X8_leads : ∀ As w P K, qq_Sat ww_sh ww_ro cs_X8_leads (qq_at 54 kd_X8_leads) (some .boolean) P K → T_X8_leads As w P → K 0 (lv_args 0 As) [] w := by
  intro As w P K S h
  unfold T_X8_leads at h
  split at h
  · rename_i a b
    obtain ⟨hp, hq1, hq0⟩ := h
    obtain ⟨eE, hE⟩ := qn_eq hp (by decide)
    refine qq_go_ok S (fun pc => Nat.beq pc 5) 60 ?_
    conv => whnf
    exact qq_wk S (lp_mleads S (by omega) eE hq1 hq0 _ 0 (Nat.zero_add _) _ _ rfl (Or.inr ⟨rfl, fun ⟨k, z, _⟩ => absurd z (by omega)⟩)) ⟨rfl, rfl, rfl, rfl, rfl, trivial⟩
  · exact h.elim
theorem ha_X8_leads : ∀ As w P, T_X8_leads As w P → qq_wd As ≤ 5 := by
  intro As w P h
  unfold T_X8_leads at h
  split at h
  · exact Nat.le_of_ble_eq_true rfl
  · exact h.elim
theorem hv_X8_leads : ∀ As w P, T_X8_leads As w P → ∃ (k : Nat) (r : List Value) (fs : List Nat), As = .ref k :: r ∧ ww_sh[k]? = some (.inr (8, fs)) := by
  intro As w P h
  unfold T_X8_leads at h
  split at h
  · exact ⟨_, _, _, rfl, rfl⟩
  · exact h.elim
set_option maxRecDepth 100000 in
theorem M_X8_leads (l : Launch) : qq_M l ww_T ww_N vwCl ww_sh ww_ro ww_zs yX8_leads cX8_leads 5 (some .boolean) (ww_rm 0) T_X8_leads := by
  refine qq_mk (host := RX7) (is := ki_X8_leads) (cs := cs_X8_leads) (by decide) ww_k1 wl_X8 ww_so ww_so2 kc_X8_leads kv_X8_leads kg_X8_leads ?_ ha_X8_leads bd_X8_leads
  intro k i q hi hq
  simp [cs_X8_leads] at hq
abbrev cs_X8_reads : List (Nat × qq_t) := []
/-- a node reads a variable, by the reference -/
def mReads (w : qq_w) (n : Nat) (x : Int32) : Prop := ((w.1 8 23 = 0 ∧ w.1 43 n = 8 ∧ w.1 44 n = x) ∨ (¬ w.1 8 23 = 0 ∧ ((w.1 43 n = 8 ∧ w.1 44 n = x) ∨ w.1 45 n = x ∨ w.1 46 n = x)) ∨ (w.1 8 23 = 1 ∧ ∃ k, k < qn (w.1 50 n) ∧ w.1 51 (4 * n + k) = x)) ∧ ¬ w.1 8 23 = 2
def mRoom (w : qq_w) (n : Nat) : Prop := (w.1 50 n = nI (qn (w.1 50 n)) ∧ qn (w.1 50 n) < 5) ∨ (w.1 50 n = -5 ∧ qn (w.1 50 n) = 0)
def T_X8_reads : qq_t := fun As w P => match As with
  | [.ref 8, .int a, .int x] => (vp_in a 64 ∧ mRoom w (qn a)) ∧ (mReads w (qn a) x → P (some (.int 1)) w) ∧ (¬ mReads w (qn a) x → P (some (.int 0)) w)
  | _ => False
theorem rd_136 {P : Option Value → qq_w → Prop} {K : Nat → qq_L → List Value → qq_w → Prop} (S : qq_Sat ww_sh ww_ro cs_X8_reads (qq_at 154 kd_X8_reads) (some .boolean) P K) {w : qq_w} {a x x3 : Int32} {R : Prop} (h3 : (x3 = 1 ∧ R) ∨ (x3 = 0 ∧ ¬ R)) (h1 : R ∧ ¬ w.1 8 23 = 2 → P (some (.int 1)) w) (h0 : ¬ (R ∧ ¬ w.1 8 23 = 2) → P (some (.int 0)) w) : K 136 [(0, .ref 8), (1, .int a), (2, .int x), (3, .int x3)] [] w := by
  refine qq_go_ok S (fun _ => false) 60 ?_
  rcases h3 with ⟨rfl, h3⟩ | ⟨rfl, h3⟩
  · conv => whnf
    refine br_f (by decide) ?_
    conv => whnf
    refine ⟨fun h => ?_, fun h => ?_⟩
    · conv => whnf
      exact h0 fun z => z.2 h
    · conv => whnf
      exact h1 ⟨h3, h⟩
  · conv => whnf
    refine br_t rfl ?_
    conv => whnf
    exact h0 fun z => h3 z.1
theorem rd_86 {P : Option Value → qq_w → Prop} {K : Nat → qq_L → List Value → qq_w → Prop} (S : qq_Sat ww_sh ww_ro cs_X8_reads (qq_at 154 kd_X8_reads) (some .boolean) P K) {w : qq_w} {a x : Int32} {n r : Nat} {R : Prop} (ea : a = nI n) (hn : n < 64) (hr : (w.1 50 n = nI r ∧ r < 5) ∨ (w.1 50 n = -5 ∧ r = 0))
    (h1 : (R ∨ (w.1 8 23 = 1 ∧ ∃ k, k < r ∧ w.1 51 (4 * n + k) = x)) ∧ ¬ w.1 8 23 = 2 → P (some (.int 1)) w) (h0 : ¬ ((R ∨ (w.1 8 23 = 1 ∧ ∃ k, k < r ∧ w.1 51 (4 * n + k) = x)) ∧ ¬ w.1 8 23 = 2) → P (some (.int 0)) w) :
    ∀ m i, i + m = r → ∀ x3 x4 : Int32, x4 = nI i → (x3 = 1 ∧ (R ∨ (w.1 8 23 = 1 ∧ ∃ k, k < i ∧ w.1 51 (4 * n + k) = x))) ∨ (x3 = 0 ∧ ¬ (R ∨ (w.1 8 23 = 1 ∧ ∃ k, k < i ∧ w.1 51 (4 * n + k) = x))) → K 86 [(0, .ref 8), (1, .int a), (2, .int x), (3, .int x3), (4, .int x4)] [] w := by
  have c50 : w.1 50 a.toNatClampNeg = w.1 50 n := by rw [i_c ea (by omega)]
  intro m
  induction m with
  | zero =>
    intro i hi x3 x4 e4 h
    have : i = r := by omega
    subst this
    have hle : w.1 50 a.toNatClampNeg ≤ x4 := by
      rw [c50]
      rcases hr with ⟨z1, z2⟩ | ⟨z1, z2⟩
      · exact i_ge' e4 z1 (by omega) (by omega)
      · rw [z1, e4, z2]; decide
    refine qq_go_ok S (fun pc => Nat.beq pc 86 || Nat.beq pc 136) 60 ?_
    conv => whnf
    refine ⟨i_in 64 ea hn (by decide), ?_⟩
    conv => whnf
    refine br_t hle ?_
    conv => whnf
    exact qq_wk S (rd_136 S h h1 h0) ⟨rfl, rfl, rfl, rfl, trivial⟩
  | succ m ih =>
    intro i hi x3 x4 e4 h
    obtain ⟨er, hr5⟩ : w.1 50 n = nI r ∧ r < 5 := by
      rcases hr with z | ⟨-, z⟩
      · exact z
      · omega
    refine qq_go_ok S (fun pc => Nat.beq pc 86 || Nat.beq pc 136) 60 ?_
    conv => whnf
    refine ⟨i_in 64 ea hn (by decide), ?_⟩
    conv => whnf
    refine br_f (i_lt' e4 (c50.trans er) (by omega) (by omega)) ?_
    conv => whnf
    refine ⟨fun hc => ?_, fun hc => ?_⟩
    · have hc : ¬ w.1 8 23 = 1 := hc
      conv => whnf
      have e : ∀ q, (R ∨ (w.1 8 23 = 1 ∧ ∃ k, k < q ∧ w.1 51 (4 * n + k) = x)) ↔ R := fun q => ⟨fun z => z.elim id (fun y => absurd y.1 hc), Or.inl⟩
      rw [e] at h h1 h0
      exact qq_wk S (rd_136 S h h1 h0) ⟨rfl, rfl, rfl, rfl, trivial⟩
    · have hc : w.1 8 23 = 1 := hc
      rcases h with ⟨rfl, h⟩ | ⟨rfl, h⟩
      · conv => whnf
        refine br_nt (by decide) ?_
        conv => whnf
        refine qq_wk S (ih (i + 1) (by omega) _ _ (i_s e4) (Or.inl ⟨rfl, ?_⟩)) ⟨rfl, rfl, rfl, rfl, rfl, trivial⟩
        rcases h with h | ⟨_, k, z1, z2⟩
        · exact Or.inl h
        · exact Or.inr ⟨hc, k, by omega, z2⟩
      · conv => whnf
        refine br_nf rfl ?_
        conv => whnf
        have e := nI_mr ea e4 (nI_lit 4)
        refine ⟨i_in 256 e (by omega) (by decide), ?_⟩
        conv => whnf
        have ce : w.1 51 ((4 : Int32) * a + x4).toNatClampNeg = w.1 51 (4 * n + i) := by rw [i_c e (by omega)]
        refine ⟨fun y => ?_, fun y => ?_⟩
        · have y : ¬ w.1 51 ((4 : Int32) * a + x4).toNatClampNeg = x := y
          rw [ce] at y
          conv => whnf
          refine qq_wk S (ih (i + 1) (by omega) _ _ (i_s e4) (Or.inr ⟨rfl, ?_⟩)) ⟨rfl, rfl, rfl, rfl, rfl, trivial⟩
          rintro (z | ⟨_, k, z1, z2⟩)
          · exact h (Or.inl z)
          · by_cases q : k = i
            · subst q; exact y z2
            · exact h (Or.inr ⟨hc, k, by omega, z2⟩)
        · have y : w.1 51 ((4 : Int32) * a + x4).toNatClampNeg = x := y
          rw [ce] at y
          conv => whnf
          exact qq_wk S (ih (i + 1) (by omega) _ _ (i_s e4) (Or.inl ⟨rfl, Or.inr ⟨hc, i, by omega, y⟩⟩)) ⟨rfl, rfl, rfl, rfl, rfl, trivial⟩
set_option maxHeartbeats 4000000 in
set_option maxRecDepth 100000 in
theorem bd_X8_reads : ∀ As w P K, qq_Sat ww_sh ww_ro cs_X8_reads (qq_at 154 kd_X8_reads) (some .boolean) P K → T_X8_reads As w P → K 0 (lv_args 0 As) [] w := by
  intro As w P K S h
  unfold T_X8_reads at h
  split at h
  · rename_i a x
    obtain ⟨⟨hp, hr⟩, hq1, hq0⟩ := h
    obtain ⟨ea, ha⟩ := qn_eq hp (by decide)
    let R : Prop := (w.1 8 23 = 0 ∧ w.1 43 (qn a) = 8 ∧ w.1 44 (qn a) = x) ∨ (¬ w.1 8 23 = 0 ∧ ((w.1 43 (qn a) = 8 ∧ w.1 44 (qn a) = x) ∨ w.1 45 (qn a) = x ∨ w.1 46 (qn a) = x))
    have e : mReads w (qn a) x ↔ (R ∨ (w.1 8 23 = 1 ∧ ∃ k, k < qn (w.1 50 (qn a)) ∧ w.1 51 (4 * qn a + k) = x)) ∧ ¬ w.1 8 23 = 2 := by
      unfold mReads
      constructor
      · rintro ⟨y | y | y, z⟩
        · exact ⟨Or.inl (Or.inl y), z⟩
        · exact ⟨Or.inl (Or.inr y), z⟩
        · exact ⟨Or.inr y, z⟩
      · rintro ⟨(y | y) | y, z⟩
        · exact ⟨Or.inl y, z⟩
        · exact ⟨Or.inr (Or.inl y), z⟩
        · exact ⟨Or.inr (Or.inr y), z⟩
    rw [e] at hq1 hq0
    have go : ∀ x3 : Int32, (x3 = 1 ∧ R) ∨ (x3 = 0 ∧ ¬ R) → K 86 [(0, .ref 8), (1, .int a), (2, .int x), (3, .int x3), (4, .int 0)] [] w := by
      intro x3 h3
      refine rd_86 S (R := R) ea ha hr hq1 hq0 _ 0 (Nat.zero_add _) x3 0 rfl ?_
      have e0 : (R ∨ (w.1 8 23 = 1 ∧ ∃ k, k < 0 ∧ w.1 51 (4 * qn a + k) = x)) ↔ R := ⟨fun z => z.elim id (fun ⟨_, k, y, _⟩ => absurd y (by omega)), Or.inl⟩
      rw [e0]
      exact h3
    refine qq_go_ok S (fun pc => Nat.beq pc 86 || Nat.beq pc 57) 60 ?_
    conv => whnf
    refine ⟨fun hc => ?_, fun hc => ?_⟩
    · have hc : ¬ w.1 8 23 = 0 := hc
      have eR : R ↔ ((w.1 43 (qn a) = 8 ∧ w.1 44 (qn a) = x) ∨ w.1 45 (qn a) = x ∨ w.1 46 (qn a) = x) := ⟨fun z => z.elim (fun y => absurd y.1 hc) (fun y => y.2), fun z => Or.inr ⟨hc, z⟩⟩
      have rest : ¬ (w.1 43 (qn a) = 8 ∧ w.1 44 (qn a) = x) → K 57 [(0, .ref 8), (1, .int a), (2, .int x)] [] w := by
        intro h8
        refine qq_go_ok S (fun pc => Nat.beq pc 86) 60 ?_
        conv => whnf
        refine ⟨hp, ?_⟩
        conv => whnf
        refine ⟨fun hy => ?_, fun hy => ?_⟩
        · have hy : w.1 45 (qn a) = x := hy
          conv => whnf
          exact qq_wk S (go 1 (Or.inl ⟨rfl, eR.mpr (Or.inr (Or.inl hy))⟩)) ⟨rfl, rfl, rfl, rfl, rfl, trivial⟩
        · have hy : ¬ w.1 45 (qn a) = x := hy
          conv => whnf
          refine ⟨hp, ?_⟩
          conv => whnf
          refine ⟨fun hz => ?_, fun hz => ?_⟩
          · have hz : ¬ w.1 46 (qn a) = x := hz
            conv => whnf
            refine qq_wk S (go 0 (Or.inr ⟨rfl, fun z => ?_⟩)) ⟨rfl, rfl, rfl, rfl, rfl, trivial⟩
            rcases eR.mp z with z | z | z
            · exact h8 z
            · exact hy z
            · exact hz z
          · have hz : w.1 46 (qn a) = x := hz
            conv => whnf
            exact qq_wk S (go 1 (Or.inl ⟨rfl, eR.mpr (Or.inr (Or.inr hz))⟩)) ⟨rfl, rfl, rfl, rfl, rfl, trivial⟩
      conv => whnf
      refine ⟨hp, ?_⟩
      conv => whnf
      refine ⟨fun h8 => ?_, fun h8 => ?_⟩
      · have h8 : ¬ w.1 43 (qn a) = 8 := h8
        conv => whnf
        exact qq_wk S (rest fun z => h8 z.1) ⟨rfl, rfl, rfl, trivial⟩
      · have h8 : w.1 43 (qn a) = 8 := h8
        conv => whnf
        refine ⟨hp, ?_⟩
        conv => whnf
        refine ⟨fun hx => ?_, fun hx => ?_⟩
        · have hx : w.1 44 (qn a) = x := hx
          conv => whnf
          exact qq_wk S (go 1 (Or.inl ⟨rfl, eR.mpr (Or.inl ⟨h8, hx⟩)⟩)) ⟨rfl, rfl, rfl, rfl, rfl, trivial⟩
        · have hx : ¬ w.1 44 (qn a) = x := hx
          conv => whnf
          exact qq_wk S (rest fun z => hx z.2) ⟨rfl, rfl, rfl, trivial⟩
    · have hc : w.1 8 23 = 0 := hc
      have eR : R ↔ (w.1 43 (qn a) = 8 ∧ w.1 44 (qn a) = x) := ⟨fun z => z.elim (fun y => y.2) (fun y => absurd hc y.1), fun z => Or.inl ⟨hc, z⟩⟩
      conv => whnf
      refine ⟨hp, ?_⟩
      conv => whnf
      refine ⟨fun h8 => ?_, fun h8 => ?_⟩
      · have h8 : ¬ w.1 43 (qn a) = 8 := h8
        conv => whnf
        exact qq_wk S (go 0 (Or.inr ⟨rfl, fun z => h8 (eR.mp z).1⟩)) ⟨rfl, rfl, rfl, rfl, rfl, trivial⟩
      · have h8 : w.1 43 (qn a) = 8 := h8
        conv => whnf
        refine ⟨hp, ?_⟩
        conv => whnf
        refine ⟨fun hx => ?_, fun hx => ?_⟩
        · have hx : ¬ w.1 44 (qn a) = x := hx
          conv => whnf
          exact qq_wk S (go 0 (Or.inr ⟨rfl, fun z => hx (eR.mp z).2⟩)) ⟨rfl, rfl, rfl, rfl, rfl, trivial⟩
        · have hx : w.1 44 (qn a) = x := hx
          conv => whnf
          exact qq_wk S (go 1 (Or.inl ⟨rfl, eR.mpr ⟨h8, hx⟩⟩)) ⟨rfl, rfl, rfl, rfl, rfl, trivial⟩
  · exact h.elim
theorem ha_X8_reads : ∀ As w P, T_X8_reads As w P → qq_wd As ≤ 5 := by
  intro As w P h
  unfold T_X8_reads at h
  split at h
  · exact Nat.le_of_ble_eq_true rfl
  · exact h.elim
theorem hv_X8_reads : ∀ As w P, T_X8_reads As w P → ∃ (k : Nat) (r : List Value) (fs : List Nat), As = .ref k :: r ∧ ww_sh[k]? = some (.inr (8, fs)) := by
  intro As w P h
  unfold T_X8_reads at h
  split at h
  · exact ⟨_, _, _, rfl, rfl⟩
  · exact h.elim
set_option maxRecDepth 100000 in
theorem M_X8_reads (l : Launch) : qq_M l ww_T ww_N vwCl ww_sh ww_ro ww_zs yX8_reads cX8_reads 5 (some .boolean) (ww_rm 0) T_X8_reads := by
  refine qq_mk (host := RX7) (is := ki_X8_reads) (cs := cs_X8_reads) (by decide) ww_k1 wl_X8 ww_so ww_so2 kc_X8_reads kv_X8_reads kg_X8_reads ?_ ha_X8_reads bd_X8_reads
  intro k i q hi hq
  simp [cs_X8_reads] at hq
abbrev cs_X8_reportAt : List (Nat × qq_t) := [(3, T_X8_reads), (3, T_X8_holdsAt)]
/-- the one that is told as number i, of bits by nodes -/
def rpIs (B : Nat → Int32) (i : Int32) (n x : Nat) : Prop := bt (B n) x = true ∧ nI (cCount B n + pcb (B n) x) = i
def T_X8_reportAt : qq_t := fun As w P => match As with
  | [.ref 8, .int i] => (vp_in (w.1 8 8) 65 ∧ ∀ n, n < qn (w.1 8 8) → mRoom w n) ∧ ∃ B : Nat → Int32, (∀ n, n < qn (w.1 8 8) → bt (B n) 0 = false ∧ ∀ x, 1 ≤ x → x < 13 → (bt (B n) x = true ↔ mReads w n (nI x) ∧ mHolds w n x)) ∧ (∀ n x, n < qn (w.1 8 8) → 1 ≤ x → x < 13 → rpIs B i n x → P (some (.int (nI (13 * n + x)))) (qq_ui w 8 46 (nI (cCount B (qn (w.1 8 8)))))) ∧ ((∀ n x, n < qn (w.1 8 8) → 1 ≤ x → x < 13 → ¬ rpIs B i n x) → P (some (.int (-5))) (qq_ui w 8 46 (nI (cCount B (qn (w.1 8 8))))))
  | _ => False
theorem qq_ui_ui (w : qq_w) (k j : Nat) (x y : Int32) : qq_ui (qq_ui w k j x) k j y = qq_ui w k j y := by
  refine Prod.ext (funext fun q => ?_) rfl
  show va_up (va_up w.1 k (upd (w.1 k) j x)) k (upd (va_up w.1 k (upd (w.1 k) j x) k) j y) q = va_up w.1 k (upd (w.1 k) j y) q
  by_cases z : q = k
  · subst z
    funext i
    simp only [va_up, if_true, upd_at]
    split <;> rfl
  · simp only [va_up, z, if_false]
theorem rp_21 {P : Option Value → qq_w → Prop} {K : Nat → qq_L → List Value → qq_w → Prop} (S : qq_Sat ww_sh ww_ro cs_X8_reportAt (qq_at 92 kd_X8_reportAt) (some .int) P K) {w : qq_w} {B : Nat → Int32} {i x3 : Int32} {n : Nat} (e3 : x3 = nI n) (hn : n < 64) (hro : mRoom w n) (hB : bt (B n) 0 = false ∧ ∀ x, 1 ≤ x → x < 13 → (bt (B n) x = true ↔ mReads w n (nI x) ∧ mHolds w n x))
    (hk : ∀ x2 : Int32, ((∃ n' x, n' < n + 1 ∧ 1 ≤ x ∧ x < 13 ∧ rpIs B i n' x ∧ x2 = nI (13 * n' + x)) ∨ (x2 = -5 ∧ ∀ n' x, n' < n + 1 → 1 ≤ x → x < 13 → ¬ rpIs B i n' x)) → K 10 [(0, .ref 8), (1, .int i), (2, .int x2), (3, .int (x3 + 1))] [] (qq_ui w 8 46 (nI (cCount B (n + 1))))) :
    ∀ m j, j + m = 13 → 1 ≤ j → ∀ x2 x4 : Int32, x4 = nI j → ((∃ n' x, (n' < n ∨ (n' = n ∧ x < j)) ∧ 1 ≤ x ∧ x < 13 ∧ rpIs B i n' x ∧ x2 = nI (13 * n' + x)) ∨ (x2 = -5 ∧ ∀ n' x, (n' < n ∨ (n' = n ∧ x < j)) → 1 ≤ x → x < 13 → ¬ rpIs B i n' x)) → K 21 [(0, .ref 8), (1, .int i), (2, .int x2), (3, .int x3), (4, .int x4)] [] (qq_ui w 8 46 (nI (cCount B n + pcb (B n) j))) := by
  have q3 : qn x3 = n := by rw [e3]; exact qn_nI (by omega)
  have hle := cCount_le B n
  intro m
  induction m with
  | zero =>
    intro j hj h1 x2 x4 e4 h2
    have : j = 13 := by omega
    subst this
    refine qq_go_ok S (fun pc => Nat.beq pc 21 || Nat.beq pc 10) 60 ?_
    conv => whnf
    refine br_t (i_ge 13 e4 (by omega) (by omega)) ?_
    conv => whnf
    refine qq_wk S (hk x2 ?_) ⟨rfl, rfl, rfl, rfl, trivial⟩
    rcases h2 with ⟨n', x, z1, z2⟩ | ⟨z1, z2⟩
    · exact Or.inl ⟨n', x, by omega, z2⟩
    · refine Or.inr ⟨z1, fun n' x y1 y2 y3 => z2 n' x ?_ y2 y3⟩
      by_cases q : n' = n
      · exact Or.inr ⟨q, y3⟩
      · exact Or.inl (by omega)
  | succ m ih =>
    intro j hj h1 x2 x4 e4 h2
    have q4 : qn x4 = j := by rw [e4]; exact qn_nI (by omega)
    have hpj := pcb_le (B n) j
    have skip : ¬ bt (B n) j = true → K 21 [(0, .ref 8), (1, .int i), (2, .int x2), (3, .int x3), (4, .int (x4 + 1))] [] (qq_ui w 8 46 (nI (cCount B n + pcb (B n) j))) := by
      intro z
      have e : pcb (B n) (j + 1) = pcb (B n) j := by
        show pcb (B n) j + (if bt (B n) j = true then 1 else 0) = _
        rw [if_neg z]; rfl
      rw [← e]
      refine ih (j + 1) (by omega) (by omega) _ _ (i_s e4) ?_
      rcases h2 with ⟨n', x, z1, z2⟩ | ⟨z1, z2⟩
      · exact Or.inl ⟨n', x, by omega, z2⟩
      · refine Or.inr ⟨z1, fun n' x y1 y2 y3 y4 => ?_⟩
        by_cases q : n' = n ∧ x = j
        · obtain ⟨rfl, rfl⟩ := q
          exact z y4.1
        · exact z2 n' x (by omega) y2 y3 y4
    have hB' := hB.2 j h1 (by omega)
    refine qq_go_ok S (fun pc => Nat.beq pc 21 || Nat.beq pc 10) 60 ?_
    conv => whnf
    refine br_f (i_nge 13 e4 (by omega) (by omega)) ?_
    conv => whnf
    refine ⟨⟨i_in 64 e3 hn (by decide), by rw [q3]; exact hro⟩, fun y => ?_, fun y => ?_⟩
    · have y : mReads w n x4 := by rw [q3] at y; exact y
      rw [e4] at y
      conv => whnf
      refine br_f (by decide) ?_
      conv => whnf
      refine ⟨⟨i_in 64 e3 hn (by decide), i_in 13 e4 (by omega) (by decide)⟩, fun y2 => ?_, fun y2 => ?_⟩
      · have y2 : mHolds w n j := by rw [q3, q4] at y2; exact y2
        have z := hB'.mpr ⟨y, y2⟩
        have e : pcb (B n) (j + 1) = pcb (B n) j + 1 := by
          show pcb (B n) j + (if bt (B n) j = true then 1 else 0) = _
          rw [if_pos z]
        conv => whnf
        refine br_f (by decide) ?_
        conv => whnf
        have ew : qq_ui (qq_ui w 8 46 (nI (cCount B n + pcb (B n) j))) 8 46 (nI (cCount B n + pcb (B n) j) + 1) = qq_ui w 8 46 (nI (cCount B n + pcb (B n) (j + 1))) := by
          rw [qq_ui_ui, nI_1, e]; rfl
        refine ⟨fun h => ?_, fun h => ?_⟩
        · have h : ¬ nI (cCount B n + pcb (B n) j) = i := h
          conv => whnf
          have := ih (j + 1) (by omega) (by omega) x2 (x4 + 1) (i_s e4) (by
            rcases h2 with ⟨n', x, z1, z2⟩ | ⟨z1, z2⟩
            · exact Or.inl ⟨n', x, by omega, z2⟩
            · refine Or.inr ⟨z1, fun n' x y1 y2 y3 y4 => ?_⟩
              by_cases q : n' = n ∧ x = j
              · obtain ⟨rfl, rfl⟩ := q
                exact h y4.2
              · exact z2 n' x (by omega) y2 y3 y4)
          rw [← ew] at this
          exact qq_wk S this ⟨rfl, rfl, rfl, rfl, rfl, trivial⟩
        · have h : nI (cCount B n + pcb (B n) j) = i := h
          conv => whnf
          have e2 : (13 : Int32) * x3 + x4 = nI (13 * n + j) := nI_mr e3 e4 (nI_lit 13)
          have := ih (j + 1) (by omega) (by omega) ((13 : Int32) * x3 + x4) (x4 + 1) (i_s e4) (Or.inl ⟨n, j, Or.inr ⟨rfl, by omega⟩, h1, by omega, ⟨z, h⟩, e2⟩)
          rw [← ew] at this
          exact qq_wk S this ⟨rfl, rfl, rfl, rfl, rfl, trivial⟩
      · have y2 : ¬ mHolds w n j := by rw [q3, q4] at y2; exact y2
        conv => whnf
        refine br_t rfl ?_
        conv => whnf
        exact qq_wk S (skip fun z => y2 (hB'.mp z).2) ⟨rfl, rfl, rfl, rfl, rfl, trivial⟩
    · have y : ¬ mReads w n x4 := by rw [q3] at y; exact y
      rw [e4] at y
      conv => whnf
      refine br_t rfl ?_
      conv => whnf
      exact qq_wk S (skip fun z => y (hB'.mp z).1) ⟨rfl, rfl, rfl, rfl, rfl, trivial⟩
theorem rp_10 {P : Option Value → qq_w → Prop} {K : Nat → qq_L → List Value → qq_w → Prop} (S : qq_Sat ww_sh ww_ro cs_X8_reportAt (qq_at 92 kd_X8_reportAt) (some .int) P K) {w : qq_w} {B : Nat → Int32} {i : Int32} {N : Nat} (eN : w.1 8 8 = nI N) (hN : N ≤ 64) (hro : ∀ n, n < N → mRoom w n) (hB : ∀ n, n < N → bt (B n) 0 = false ∧ ∀ x, 1 ≤ x → x < 13 → (bt (B n) x = true ↔ mReads w n (nI x) ∧ mHolds w n x))
    (h1 : ∀ n x, n < N → 1 ≤ x → x < 13 → rpIs B i n x → P (some (.int (nI (13 * n + x)))) (qq_ui w 8 46 (nI (cCount B N)))) (h0 : (∀ n x, n < N → 1 ≤ x → x < 13 → ¬ rpIs B i n x) → P (some (.int (-5))) (qq_ui w 8 46 (nI (cCount B N)))) :
    ∀ m n, n + m = N → ∀ x2 x3 : Int32, x3 = nI n → ((∃ n' x, n' < n ∧ 1 ≤ x ∧ x < 13 ∧ rpIs B i n' x ∧ x2 = nI (13 * n' + x)) ∨ (x2 = -5 ∧ ∀ n' x, n' < n → 1 ≤ x → x < 13 → ¬ rpIs B i n' x)) → K 10 [(0, .ref 8), (1, .int i), (2, .int x2), (3, .int x3)] [] (qq_ui w 8 46 (nI (cCount B n))) := by
  intro m
  induction m with
  | zero =>
    intro n hn x2 x3 e3 h2
    have : n = N := by omega
    subst this
    have eN' : (qq_ui w 8 46 (nI (cCount B n))).1 8 8 = nI n := eN
    refine qq_go_ok S (fun pc => Nat.beq pc 10) 60 ?_
    conv => whnf
    refine br_t (i_ge' e3 eN' (by omega) (by omega)) ?_
    conv => whnf
    rcases h2 with ⟨n', x, z1, z2, z3, z4, z5⟩ | ⟨z1, z2⟩
    · rw [z5]
      exact h1 n' x z1 z2 z3 z4
    · rw [z1]
      exact h0 z2
  | succ m ih =>
    intro n hn x2 x3 e3 h2
    have eN' : (qq_ui w 8 46 (nI (cCount B n))).1 8 8 = nI N := eN
    refine qq_go_ok S (fun pc => Nat.beq pc 21) 60 ?_
    conv => whnf
    refine br_f (i_lt' e3 eN' (by omega) (by omega)) ?_
    conv => whnf
    have := rp_21 S (B := B) (i := i) e3 (by omega) (hro n (by omega)) (hB n (by omega)) (fun x2 h => ih (n + 1) (by omega) x2 _ (i_s e3) h) 12 1 rfl (by omega) x2 1 rfl (by
      rcases h2 with ⟨n', x, z1, z2⟩ | ⟨z1, z2⟩
      · exact Or.inl ⟨n', x, Or.inl z1, z2⟩
      · exact Or.inr ⟨z1, fun n' x y1 y2 y3 => z2 n' x (by omega) y2 y3⟩)
    have e : pcb (B n) 1 = 0 := by
      show 0 + (if bt (B n) 0 = true then 1 else 0) = _
      rw [(hB n (by omega)).1]
      rfl
    rw [e] at this
    exact qq_wk S this ⟨rfl, rfl, rfl, rfl, rfl, trivial⟩
set_option maxHeartbeats 4000000 in
set_option maxRecDepth 100000 in
theorem bd_X8_reportAt : ∀ As w P K, qq_Sat ww_sh ww_ro cs_X8_reportAt (qq_at 92 kd_X8_reportAt) (some .int) P K → T_X8_reportAt As w P → K 0 (lv_args 0 As) [] w := by
  intro As w P K S h
  unfold T_X8_reportAt at h
  split at h
  · rename_i i
    obtain ⟨⟨hp, hro⟩, B, hB, h1, h0⟩ := h
    obtain ⟨eN, hN⟩ := qn_eq hp (by decide)
    refine qq_go_ok S (fun pc => Nat.beq pc 10) 60 ?_
    conv => whnf
    exact qq_wk S (rp_10 S eN (by omega) hro hB h1 h0 _ 0 (Nat.zero_add _) (-5) _ rfl (Or.inr ⟨rfl, fun n' x z => absurd z (by omega)⟩)) ⟨rfl, rfl, rfl, rfl, trivial⟩
  · exact h.elim
theorem ha_X8_reportAt : ∀ As w P, T_X8_reportAt As w P → qq_wd As ≤ 5 := by
  intro As w P h
  unfold T_X8_reportAt at h
  split at h
  · exact Nat.le_of_ble_eq_true rfl
  · exact h.elim
theorem hv_X8_reportAt : ∀ As w P, T_X8_reportAt As w P → ∃ (k : Nat) (r : List Value) (fs : List Nat), As = .ref k :: r ∧ ww_sh[k]? = some (.inr (8, fs)) := by
  intro As w P h
  unfold T_X8_reportAt at h
  split at h
  · exact ⟨_, _, _, rfl, rfl⟩
  · exact h.elim
set_option maxRecDepth 100000 in
theorem M_X8_reportAt (l : Launch) : qq_M l ww_T ww_N vwCl ww_sh ww_ro ww_zs yX8_reportAt cX8_reportAt 5 (some .int) (ww_rm 1) T_X8_reportAt := by
  refine qq_mk (host := RX7) (is := ki_X8_reportAt) (cs := cs_X8_reportAt) (by decide) ww_k1 wl_X8 ww_so ww_so2 kc_X8_reportAt kv_X8_reportAt kg_X8_reportAt ?_ ha_X8_reportAt bd_X8_reportAt
  intro k i q hi hq
  match k, hi, hq with
  | 0, hi, hq => cases hi; cases hq; exact fun p e s m args below meth c D tys tC ad Q pc X hdg => qq_cV (ci := 8) X ww_gd (M_X8_reads l) kf_X8_reads.1 (Or.inl (ww_a6 (i := 124) (w := Cond.methodLink RX8 319 yX8_reads) rfl rfl)) kf_X8_reads.2.1 kf_X8_reads.2.2.1 kf_X8_reads.2.2.2 ⟨by decide, by decide, by decide +kernel⟩ rfl rfl rfl ⟨by decide, by decide⟩ ⟨Nat.le_refl _, Nat.le_refl _⟩ hv_X8_reads hdg
  | 1, hi, hq => cases hi; cases hq; exact fun p e s m args below meth c D tys tC ad Q pc X hdg => qq_cV (ci := 8) X ww_gd (M_X8_holdsAt l) kf_X8_holdsAt.1 (Or.inl (ww_a5 (i := 238) (w := Cond.methodLink RX8 214 yX8_holdsAt) rfl rfl)) kf_X8_holdsAt.2.1 kf_X8_holdsAt.2.2.1 kf_X8_holdsAt.2.2.2 ⟨by decide, by decide, by decide +kernel⟩ rfl rfl rfl ⟨by decide, by decide⟩ ⟨Nat.le_refl _, Nat.le_refl _⟩ hv_X8_holdsAt hdg
  | n + 2, hi, hq => simp [cs_X8_reportAt] at hq
