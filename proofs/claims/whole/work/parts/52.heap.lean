/-! the heap of lengths -/
theorem nI_m1 {i : Nat} (h : i < 2 ^ 31) : ¬ nI i = -1 := by
  intro e
  rcases Nat.eq_zero_or_pos i with z | z
  · subst z; exact absurd e (by decide)
  · have := congrArg qn e
    rw [qn_nI h] at this
    have e2 : qn (-1) = 0 := by decide
    omega
theorem r_div2 {x : Int32} {c : Nat} (e : x = nI c) (hc : c < 2 ^ 31) : x / 2 = nI (c / 2) := by
  have : x / nI 2 = nI (c / 2) := by rw [e]; exact pk_div hc (by omega) (by omega)
  exact this
theorem nI_p1 (i : Nat) : nI (i + 1) - 1 = nI i := by
  have : nI (i + 1) = nI i + 1 := (i_s rfl).symm
  rw [this]
  exact Int32.add_sub_cancel _ _
def hpI (H Pl : Nat → Int32) (s M : Nat) : Prop := s ≤ M ∧ M ≤ 10816 ∧ (∀ i, i < s → ∃ c, c < M ∧ H i = nI c ∧ Pl c = nI i) ∧ ∀ c, c < M → Pl c = -1 ∨ ∃ i, i < s ∧ Pl c = nI i ∧ H i = nI c
def hpO (g : Nat → Nat) (s : Nat) : Prop := ∀ i, 0 < i → i < s → g ((i - 1) / 2) ≤ g i
def hpU (g : Nat → Nat) (s p : Nat) : Prop := (∀ i, 0 < i → i < s → i ≠ p → g ((i - 1) / 2) ≤ g i) ∧ (0 < p → ∀ j, 0 < j → j < s → (j - 1) / 2 = p → g ((p - 1) / 2) ≤ g j)
def hpD (g : Nat → Nat) (s p : Nat) : Prop := (∀ i, 0 < i → i < s → (i - 1) / 2 ≠ p → g ((i - 1) / 2) ≤ g i) ∧ (0 < p → ∀ j, 0 < j → j < s → (j - 1) / 2 = p → g ((p - 1) / 2) ≤ g j)
theorem hpU_step {g g' : Nat → Nat} {s p : Nat} (h : hpU g s p) (hp : 0 < p) (hps : p < s) (hlt : g p < g ((p - 1) / 2)) (hg : ∀ i, g' i = if i = (p - 1) / 2 then g p else if i = p then g ((p - 1) / 2) else g i) : hpU g' s ((p - 1) / 2) := by
  have hq : (p - 1) / 2 < p := by omega
  have e1 : g' ((p - 1) / 2) = g p := by rw [hg, if_pos rfl]
  have e2 : g' p = g ((p - 1) / 2) := by rw [hg, if_neg (by omega), if_pos rfl]
  have e3 : ∀ i, i ≠ (p - 1) / 2 → i ≠ p → g' i = g i := fun i a b => by rw [hg, if_neg a, if_neg b]
  refine ⟨fun i h0 hi hne => ?_, fun hq0 j h0 hj hje => ?_⟩
  · by_cases z : i = p
    · subst z; rw [e1, e2]; omega
    · rw [e3 i hne z]
      by_cases z1 : (i - 1) / 2 = p
      · rw [z1, e2]; exact h.2 hp i h0 hi z1
      · by_cases z2 : (i - 1) / 2 = (p - 1) / 2
        · rw [z2, e1]
          have := h.1 i h0 hi z
          rw [z2] at this
          omega
        · rw [e3 _ z2 z1]; exact h.1 i h0 hi z
  · have a1 : g' (((p - 1) / 2 - 1) / 2) = g (((p - 1) / 2 - 1) / 2) := e3 _ (by omega) (by omega)
    have a2 := h.1 ((p - 1) / 2) hq0 (by omega) (by omega)
    rw [a1]
    by_cases z : j = p
    · rw [z, e2]; exact a2
    · rw [e3 j (by omega) z]
      have := h.1 j h0 hj z
      rw [hje] at this
      omega
theorem hpU_end {g : Nat → Nat} {s p : Nat} (h : hpU g s p) (he : p = 0 ∨ g ((p - 1) / 2) ≤ g p) : hpO g s := by
  intro i h0 hi
  by_cases z : i = p
  · subst z
    rcases he with he | he
    · omega
    · exact he
  · exact h.1 i h0 hi z
theorem hpD_step {g g' : Nat → Nat} {s p d : Nat} (h : hpD g s p) (hd : (d - 1) / 2 = p) (hd0 : 0 < d) (hds : d < s) (hlt : g d ≤ g p) (hm : ∀ j, 0 < j → j < s → (j - 1) / 2 = p → g d ≤ g j) (hg : ∀ i, g' i = if i = d then g p else if i = p then g d else g i) : hpD g' s d := by
  have hq : p < d := by omega
  have e1 : g' d = g p := by rw [hg, if_pos rfl]
  have e2 : g' p = g d := by rw [hg, if_neg (by omega), if_pos rfl]
  have e3 : ∀ i, i ≠ d → i ≠ p → g' i = g i := fun i a b => by rw [hg, if_neg a, if_neg b]
  refine ⟨fun i h0 hi hne => ?_, fun hq0 j h0 hj hje => ?_⟩
  · by_cases z : i = d
    · subst z; rw [hd, e1, e2]; exact hlt
    · by_cases z1 : (i - 1) / 2 = p
      · rw [z1, e2, e3 i z (by omega)]
        exact hm i h0 hi z1
      · rw [e3 _ hne z1]
        by_cases z2 : i = p
        · subst z2
          rw [e2]
          exact h.2 h0 d hd0 hds hd
        · rw [e3 i z z2]
          exact h.1 i h0 hi z1
  · rw [hd, e2, e3 j (by omega) (by omega)]
    have := h.1 j h0 hj (by omega)
    rw [hje] at this
    exact this
theorem hpD_end {g : Nat → Nat} {s p : Nat} (h : hpD g s p) (he : ∀ j, 0 < j → j < s → (j - 1) / 2 = p → g p ≤ g j) : hpO g s := by
  intro i h0 hi
  by_cases z : (i - 1) / 2 = p
  · rw [z]; exact he i h0 hi z
  · exact h.1 i h0 hi z
theorem hpO_min {g : Nat → Nat} {s : Nat} (h : hpO g s) : ∀ n i, i < n → i < s → g 0 ≤ g i := by
  intro n
  induction n with
  | zero => intro i hi; exact absurd hi (by omega)
  | succ n ih =>
    intro i hi hs
    rcases Nat.eq_zero_or_pos i with z | z
    · subst z; exact Nat.le_refl _
    · exact Nat.le_trans (ih ((i - 1) / 2) (by omega) (by omega)) (h i z hs)
theorem hp_swap {H Pl : Nat → Int32} {s M a b x y : Nat} (h : hpI H Pl s M) (ha : a < s) (hb : b < s) (hab : a ≠ b) (ex : H a = nI x) (ey : H b = nI y) (hx : x < M) (hy : y < M) : hpI (upd (upd H a (nI y)) b (nI x)) (upd (upd Pl y (nI a)) x (nI b)) s M ∧ x ≠ y ∧ ∀ z, z < M → (upd (upd Pl y (nI a)) x (nI b) z = -1 ↔ Pl z = -1) := by
  obtain ⟨h1, h2, h3, h4⟩ := h
  have px : Pl x = nI a := by
    obtain ⟨c, c1, c2, c3⟩ := h3 a ha
    have : x = c := (nI_eq (by omega) (by omega)).mp (ex.symm.trans c2)
    rw [this]; exact c3
  have py : Pl y = nI b := by
    obtain ⟨c, c1, c2, c3⟩ := h3 b hb
    have : y = c := (nI_eq (by omega) (by omega)).mp (ey.symm.trans c2)
    rw [this]; exact c3
  have hxy : x ≠ y := by
    intro e
    subst e
    exact hab ((nI_eq (by omega) (by omega)).mp (px.symm.trans py))
  have p1 : upd (upd Pl y (nI a)) x (nI b) x = nI b := by rw [upd_at, if_pos rfl]
  have p2 : upd (upd Pl y (nI a)) x (nI b) y = nI a := by rw [upd_at, if_neg (fun e => hxy e.symm), upd_at, if_pos rfl]
  have p3 : ∀ z, z ≠ x → z ≠ y → upd (upd Pl y (nI a)) x (nI b) z = Pl z := fun z a1 a2 => by rw [upd_at, if_neg a1, upd_at, if_neg a2]
  have k1 : upd (upd H a (nI y)) b (nI x) b = nI x := by rw [upd_at, if_pos rfl]
  have k2 : upd (upd H a (nI y)) b (nI x) a = nI y := by rw [upd_at, if_neg hab, upd_at, if_pos rfl]
  have k3 : ∀ i, i ≠ a → i ≠ b → upd (upd H a (nI y)) b (nI x) i = H i := fun i a1 a2 => by rw [upd_at, if_neg a2, upd_at, if_neg a1]
  refine ⟨⟨h1, h2, fun i hi => ?_, fun c hc => ?_⟩, hxy, fun z hz => ?_⟩
  · by_cases z1 : i = b
    · subst z1; exact ⟨x, hx, k1, p1⟩
    · by_cases z2 : i = a
      · subst z2; exact ⟨y, hy, k2, p2⟩
      · obtain ⟨c, c1, c2, c3⟩ := h3 i hi
        refine ⟨c, c1, by rw [k3 i z2 z1]; exact c2, ?_⟩
        rw [p3 c (fun e => ?_) (fun e => ?_)]
        · exact c3
        · subst e; exact z2 ((nI_eq (by omega) (by omega)).mp (c3.symm.trans px))
        · subst e; exact z1 ((nI_eq (by omega) (by omega)).mp (c3.symm.trans py))
  · by_cases z1 : c = x
    · subst z1; exact Or.inr ⟨b, hb, p1, k1⟩
    · by_cases z2 : c = y
      · subst z2; exact Or.inr ⟨a, ha, p2, k2⟩
      · rw [p3 c z1 z2]
        rcases h4 c hc with q | ⟨i, q1, q2, q3⟩
        · exact Or.inl q
        · refine Or.inr ⟨i, q1, q2, ?_⟩
          rw [k3 i (fun e => ?_) (fun e => ?_)]
          · exact q3
          · subst e; exact z1 ((nI_eq (by omega) (by omega)).mp (q3.symm.trans ex))
          · subst e; exact z2 ((nI_eq (by omega) (by omega)).mp (q3.symm.trans ey))
  · by_cases z1 : z = x
    · subst z1
      rw [p1, px]
      exact ⟨fun e => absurd e (nI_m1 (by omega)), fun e => absurd e (nI_m1 (by omega))⟩
    · by_cases z2 : z = y
      · subst z2
        rw [p2, py]
        exact ⟨fun e => absurd e (nI_m1 (by omega)), fun e => absurd e (nI_m1 (by omega))⟩
      · rw [p3 z z1 z2]
abbrev cM (w : qq_w) : Nat := 169 * qn (w.1 1 10)
abbrev hpG (w : qq_w) (H : Nat → Int32) (i : Nat) : Nat := lq (w.2 33 (qn (H i)))
def cHp (w : qq_w) : Prop := ∃ s, w.1 7 3 = nI s ∧ hpI (w.1 34) (w.1 35) s (cM w) ∧ hpO (hpG w (w.1 34)) s
abbrev cIn (w : qq_w) (c : Nat) : Prop := ¬ w.1 35 c = -1
/-- only the heap has changed -/
def cFr (w w' : qq_w) : Prop := (∀ q, q ∉ [7, 34, 35] → w'.1 q = w.1 q) ∧ (∀ j, j ≠ 3 → w'.1 7 j = w.1 7 j) ∧ ∀ q, q ≠ 33 → w'.2 q = w.2 q
theorem cFr_rf {w : qq_w} : cFr w w := ⟨fun _ _ => rfl, fun _ _ => rfl, fun _ _ => rfl⟩
theorem cFr_tr {w w1 w2 : qq_w} (h : cFr w w1) (h2 : cFr w1 w2) : cFr w w2 := ⟨fun q hq => (h2.1 q hq).trans (h.1 q hq), fun j hj => (h2.2.1 j hj).trans (h.2.1 j hj), fun q hq => (h2.2.2 q hq).trans (h.2.2 q hq)⟩
/-- places of the heap have moved -/
def cMv (w w' : qq_w) : Prop := (∀ q, q ∉ [34, 35] → w'.1 q = w.1 q) ∧ w'.2 = w.2
abbrev cs_X4_offer : List (Nat × qq_t) := [(3, T_X4_put)]
def T_X4_offer : qq_t := fun As w P => match As with
  | [.ref 7, .int c, .long x] => (vp_in c 10816 ∧ qn c < cM w ∧ cHp w ∧ lOk (w.2 33) 2000000000000 (cM w) ∧ ∃ X, x = lN X ∧ X ≤ 1000000000000) ∧ (¬ x < w.2 33 (qn c) → P none w) ∧ (x < w.2 33 (qn c) → ∀ w', cFr w w' → cHp w' → w'.2 33 = vp_updL (w.2 33) (qn c) x → (∀ z, z < cM w → (cIn w' z ↔ cIn w z ∨ z = qn c)) → P none w')
  | _ => False
theorem hp_up {H : Nat → Int32} {p q : Nat} {x y z : Int32} : upd (upd (upd H p x) p y) q z = upd (upd H p y) q z := by
  funext i
  simp only [upd_at]
  by_cases a : i = q
  · rw [if_pos a, if_pos a]
  · rw [if_neg a, if_neg a]
    by_cases b : i = p
    · rw [if_pos b, if_pos b]
    · rw [if_neg b, if_neg b, if_neg b]
theorem hp_pl {Pl : Nat → Int32} {c u : Nat} {x y z : Int32} : upd (upd (upd Pl c x) u y) c z = upd (upd Pl u y) c z := by
  funext i
  simp only [upd_at]
  by_cases a : i = c
  · rw [if_pos a, if_pos a]
  · simp only [if_neg a]
theorem of_49 {P : Option Value → qq_w → Prop} {K : Nat → qq_L → List Value → qq_w → Prop} (S : qq_Sat ww_sh ww_ro cs_X4_offer (qq_at 111 kd_X4_offer) none P K) {w : qq_w} {a : Int32} {x : Int64} {c s M X : Nat} (ea : a = nI c) (hc : c < M) (ex : x = lN X) (hX : X ≤ 1000000000000) (eX : w.2 33 c = x) (hO : lOk (w.2 33) 2000000000000 M) {R : Nat → Prop}
    (hq : ∀ w1, cMv w w1 → hpI (w1.1 34) (w1.1 35) s M → hpO (hpG w (w1.1 34)) s → (∀ z, z < M → (w1.1 35 z = -1 ↔ R z)) → P none w1) :
    ∀ k p, p < k → p < s → ∀ (x4 : Int32) (w1 : qq_w), x4 = nI p → cMv w w1 → hpI (upd (w1.1 34) p (nI c)) (upd (w1.1 35) c (nI p)) s M → hpU (hpG w (upd (w1.1 34) p (nI c))) s p → (∀ z, z < M → (upd (w1.1 35) c (nI p) z = -1 ↔ R z)) → K 49 [(0, .ref 7), (1, .int a), (2, .long x), (4, .int x4)] [] w1 := by
  intro k
  induction k with
  | zero => intro p hp; exact absurd hp (by omega)
  | succ k ih =>
    intro p hpk hps x4 w1 e4 hm hI hU hR
    have hM := hI.2.1
    have hsM := hI.1
    have done : hpO (hpG w (upd (w1.1 34) p (nI c))) s → P none (qq_ui (qq_ui w1 34 x4.toNatClampNeg a) 35 a.toNatClampNeg x4) := fun ho => by
      have e34 : (qq_ui (qq_ui w1 34 x4.toNatClampNeg a) 35 a.toNatClampNeg x4).1 34 = upd (w1.1 34) p (nI c) := by
        show upd (w1.1 34) x4.toNatClampNeg a = _
        rw [i_c e4 (by omega), ea]
      have e35 : (qq_ui (qq_ui w1 34 x4.toNatClampNeg a) 35 a.toNatClampNeg x4).1 35 = upd (w1.1 35) c (nI p) := by
        show upd (w1.1 35) a.toNatClampNeg x4 = _
        rw [i_c ea (by omega), e4]
      refine hq _ ⟨fun q hq => ?_, hm.2⟩ (by rw [e34, e35]; exact hI) (by rw [e34]; exact ho) (by rw [e35]; exact hR)
      simp only [List.mem_cons, List.not_mem_nil, or_false, not_or] at hq
      rw [← hm.1 q (by simp [hq])]
      simp only [qq_ui, va_up, hq, if_false]
    rcases Nat.eq_zero_or_pos p with z | z
    · subst z
      refine qq_go_ok S (fun pc => Nat.beq pc 49) 60 ?_
      conv => whnf
      refine br_t (i_ge' (x := 0) (i := 0) rfl e4 (by omega) (by omega)) ?_
      conv => whnf
      refine ⟨i_in 10816 e4 (by omega) (by decide), ?_⟩
      conv => whnf
      refine ⟨i_in 10816 ea (by omega) (by decide), ?_⟩
      conv => whnf
      exact done (hpU_end hU (Or.inl rfl))
    · have hup : (p - 1) / 2 < p := by omega
      have d1 : x4 - 1 = nI (p - 1) := by
        have : p = p - 1 + 1 := by omega
        rw [e4, this]; exact nI_p1 _
      have d2 := r_div2 d1 (by omega)
      have c2 := i_c d2 (by omega)
      obtain ⟨u, u1, u2, u3⟩ := hI.2.2.1 ((p - 1) / 2) (by omega)
      rw [upd_at, if_neg (by omega)] at u2
      have ch : w1.1 34 ((x4 - 1) / 2).toNatClampNeg = nI u := by rw [c2]; exact u2
      obtain ⟨U, eU, hU3⟩ := hO u u1
      have cu : w1.2 33 (w1.1 34 ((x4 - 1) / 2).toNatClampNeg).toNatClampNeg = lN U := by rw [i_c ch (by omega), hm.2]; exact eU
      have hlt : x < w1.2 33 (w1.1 34 ((x4 - 1) / 2).toNatClampNeg).toNatClampNeg ↔ X < U := by rw [cu, ex]; exact lL_lt (by omega) (by omega)
      have gp : hpG w (upd (w1.1 34) p (nI c)) p = X := by
        show lq (w.2 33 (qn (upd (w1.1 34) p (nI c) p))) = X
        rw [upd_at, if_pos rfl, qn_nI (by omega), eX, ex]
        exact lq_lN (by omega)
      have gu : hpG w (upd (w1.1 34) p (nI c)) ((p - 1) / 2) = U := by
        show lq (w.2 33 (qn (upd (w1.1 34) p (nI c) ((p - 1) / 2)))) = U
        rw [upd_at, if_neg (by omega), u2, qn_nI (by omega), eU]
        exact lq_lN (by omega)
      refine qq_go_ok S (fun pc => Nat.beq pc 49) 60 ?_
      conv => whnf
      refine br_f (i_lt' (x := 0) (i := 0) rfl e4 (by omega) (by omega)) ?_
      conv => whnf
      refine ⟨by decide, ?_⟩
      conv => whnf
      refine ⟨i_in 10816 d2 (by omega) (by decide), ?_⟩
      conv => whnf
      refine ⟨i_in 10816 ch (by omega) (by decide), ?_⟩
      conv => whnf
      refine ⟨fun h => ?_, fun h => ?_⟩
      · have h : ¬ X < U := fun y => lcmp_le.mp h (hlt.mpr y)
        conv => whnf
        refine ⟨i_in 10816 e4 (by omega) (by decide), ?_⟩
        conv => whnf
        refine ⟨i_in 10816 ea (by omega) (by decide), ?_⟩
        conv => whnf
        refine done (hpU_end hU (Or.inr ?_))
        rw [gp, gu]
        omega
      · have h : X < U := by
          by_cases y : X < U
          · exact y
          · exact absurd (lcmp_le.mpr (fun t => y (hlt.mp t))) h
        conv => whnf
        refine ⟨by decide, ?_⟩
        conv => whnf
        refine ⟨i_in 10816 d2 (by omega) (by decide), ?_⟩
        conv => whnf
        refine ⟨i_in 10816 e4 (by omega) (by decide), ?_⟩
        conv => whnf
        refine ⟨i_in 10816 ch (by omega) (by decide), ?_⟩
        conv => whnf
        have hpc : upd (w1.1 34) p (nI c) p = nI c := by rw [upd_at, if_pos rfl]
        have huc : upd (w1.1 34) p (nI c) ((p - 1) / 2) = nI u := by rw [upd_at, if_neg (by omega)]; exact u2
        obtain ⟨s1, s2, s3⟩ := hp_swap hI hps (by omega) (by omega) hpc huc hc u1
        rw [hp_up] at s1
        rw [hp_pl] at s1 s3
        generalize hw2 : qq_ui (qq_ui w1 34 x4.toNatClampNeg (w1.1 34 ((x4 - 1) / 2).toNatClampNeg)) 35 (w1.1 34 ((x4 - 1) / 2).toNatClampNeg).toNatClampNeg x4 = w2
        have e34 : w2.1 34 = upd (w1.1 34) p (nI u) := by
          rw [← hw2]
          show upd (w1.1 34) x4.toNatClampNeg (w1.1 34 ((x4 - 1) / 2).toNatClampNeg) = _
          rw [ch, i_c e4 (by omega)]
        have e35 : w2.1 35 = upd (w1.1 35) u (nI p) := by
          rw [← hw2]
          show upd (w1.1 35) (w1.1 34 ((x4 - 1) / 2).toNatClampNeg).toNatClampNeg x4 = _
          rw [i_c ch (by omega), e4]
        have hm2 : cMv w w2 := by
          refine ⟨fun q hq => ?_, by rw [← hw2]; exact hm.2⟩
          simp only [List.mem_cons, List.not_mem_nil, or_false, not_or] at hq
          rw [← hm.1 q (by simp [hq]), ← hw2]
          simp only [qq_ui, va_up, hq, if_false]
        refine qq_wk S (ih ((p - 1) / 2) (by omega) (by omega) ((x4 - 1) / 2) w2 d2 hm2 (by rw [e34, e35]; exact s1) ?_ ?_) ⟨rfl, rfl, rfl, rfl, trivial⟩
        · refine hpU_step hU z hps (by rw [gp, gu]; exact h) (fun i => ?_)
          show lq (w.2 33 (qn (upd (w2.1 34) ((p - 1) / 2) (nI c) i))) = _
          rw [e34, gp, gu]
          by_cases y1 : i = (p - 1) / 2
          · rw [if_pos y1, upd_at, if_pos y1, qn_nI (by omega), eX, ex]
            exact lq_lN (by omega)
          · rw [if_neg y1, upd_at, if_neg y1]
            by_cases y2 : i = p
            · rw [if_pos y2, upd_at, if_pos y2, qn_nI (by omega), eU]
              exact lq_lN (by omega)
            · rw [if_neg y2, upd_at, if_neg y2]
              show _ = lq (w.2 33 (qn (upd (w1.1 34) p (nI c) i)))
              rw [upd_at, if_neg y2]
        · intro z' hz'
          rw [e35, s3 z' hz']
          exact hR z' hz'
theorem hp_new {H Pl : Nat → Int32} {s M c : Nat} (h : hpI H Pl s M) (hc : c < M) (hp : Pl c = -1) : hpI (upd H s (nI c)) (upd Pl c (nI s)) (s + 1) M := by
  obtain ⟨h1, h2, h3, h4⟩ := h
  have hne : ∀ i, i < s → ¬ H i = nI c := fun i hi e => by
    obtain ⟨c', a1, a2, a3⟩ := h3 i hi
    have : c = c' := (nI_eq (by omega) (by omega)).mp (e.symm.trans a2)
    subst this
    exact nI_m1 (by omega) (a3.symm.trans hp)
  have hlt : s + 1 ≤ M := by
    refine pg_le M (s + 1) (fun i => if i < s then qn (H i) else c) (fun i hi => ?_) (fun i j hi hj e => ?_)
    · show (if i < s then qn (H i) else c) < M
      split
      · rename_i z
        obtain ⟨c', a1, a2, a3⟩ := h3 i z
        rw [a2, qn_nI (by omega)]; exact a1
      · exact hc
    · have e : (if i < s then qn (H i) else c) = (if j < s then qn (H j) else c) := e
      by_cases zi : i < s
      · obtain ⟨c1, a1, a2, a3⟩ := h3 i zi
        rw [if_pos zi, a2, qn_nI (by omega)] at e
        by_cases zj : j < s
        · obtain ⟨c2, b1, b2, b3⟩ := h3 j zj
          rw [if_pos zj, b2, qn_nI (by omega)] at e
          subst e
          exact (nI_eq (by omega) (by omega)).mp (a3.symm.trans b3)
        · rw [if_neg zj] at e
          subst e
          exact absurd a2 (hne i zi)
      · rw [if_neg zi] at e
        by_cases zj : j < s
        · obtain ⟨c2, b1, b2, b3⟩ := h3 j zj
          rw [if_pos zj, b2, qn_nI (by omega)] at e
          subst e
          exact absurd b2 (hne j zj)
        · omega
  refine ⟨hlt, h2, fun i hi => ?_, fun c' hc' => ?_⟩
  · by_cases z : i = s
    · exact ⟨c, hc, by rw [upd_at, if_pos z], by rw [upd_at, if_pos rfl, z]⟩
    · obtain ⟨c1, a1, a2, a3⟩ := h3 i (by omega)
      refine ⟨c1, a1, by rw [upd_at, if_neg z]; exact a2, ?_⟩
      rw [upd_at, if_neg (fun e => ?_)]
      · exact a3
      · subst e; exact hne i (by omega) a2
  · by_cases z : c' = c
    · exact Or.inr ⟨s, by omega, by rw [upd_at, if_pos z], by rw [upd_at, if_pos rfl, z]⟩
    · rcases h4 c' hc' with q | ⟨i, q1, q2, q3⟩
      · exact Or.inl (by rw [upd_at, if_neg z]; exact q)
      · exact Or.inr ⟨i, by omega, by rw [upd_at, if_neg z]; exact q2, by rw [upd_at, if_neg (by omega)]; exact q3⟩
set_option maxHeartbeats 4000000 in
set_option maxRecDepth 100000 in
theorem bd_X4_offer : ∀ As w P K, qq_Sat ww_sh ww_ro cs_X4_offer (qq_at 111 kd_X4_offer) none P K → T_X4_offer As w P → K 0 (lv_args 0 As) [] w := by
  intro As w P K S h
  unfold T_X4_offer at h
  split at h
  · rename_i c x
    obtain ⟨⟨hp, hcM, ⟨s, es, hI, hOr⟩, hO, X, ex, hX⟩, hq0, hq1⟩ := h
    obtain ⟨ea, ha⟩ := qn_eq hp (by decide)
    have hM := hI.2.1
    have hsM := hI.1
    obtain ⟨Y, eY, hY⟩ := hO (qn c) hcM
    have hlt : x < w.2 33 c.toNatClampNeg ↔ X < Y := by
      show x < w.2 33 (qn c) ↔ _
      rw [eY, ex]; exact lL_lt (by omega) (by omega)
    refine qq_go_ok S (fun pc => Nat.beq pc 49) 60 ?_
    conv => whnf
    refine ⟨hp, ?_⟩
    conv => whnf
    refine ⟨fun h => ?_, fun h => ?_⟩
    · have h := lcmp_lt.mp h
      have hXY := hlt.mp h
      have hq1 := hq1 h
      conv => whnf
      refine ⟨hp, ?_⟩
      conv => whnf
      refine ⟨hp, ?_⟩
      conv => whnf
      have eL : ∀ z, (qq_ul w 33 c.toNatClampNeg x).2 33 z = if z = qn c then x else w.2 33 z := fun z => updL_at _ _ _ _
      have hO2 : lOk ((qq_ul w 33 c.toNatClampNeg x).2 33) 2000000000000 (cM w) := fun z hz => by
        rw [eL]
        by_cases y : z = qn c
        · rw [if_pos y]; exact ⟨X, ex, Or.inl hX⟩
        · rw [if_neg y]; exact hO z hz
      have fin : ∀ (wb : qq_w) (s' : Nat), wb.2 = (qq_ul w 33 c.toNatClampNeg x).2 → (∀ q, q ≠ 7 → wb.1 q = w.1 q) → (∀ j, j ≠ 3 → wb.1 7 j = w.1 7 j) → wb.1 7 3 = nI s' → ∀ w1, cMv wb w1 → hpI (w1.1 34) (w1.1 35) s' (cM w) → hpO (hpG wb (w1.1 34)) s' → (∀ z, z < cM w → (w1.1 35 z = -1 ↔ ¬ (cIn w z ∨ z = qn c))) → P none w1 := fun wb s' b1 b2 b3 b4 w1 hm hI1 hO1 hR1 => by
        have m1 : w1.1 1 = w.1 1 := (hm.1 1 (by simp)).trans (b2 1 (by decide))
        have m2 : cM w1 = cM w := by unfold cM; rw [m1]
        have m7 : w1.1 7 = wb.1 7 := hm.1 7 (by simp)
        refine hq1 w1 ⟨fun q hq => ?_, fun j hj => by rw [m7]; exact b3 j hj, fun q hq => ?_⟩ ⟨s', by rw [m7]; exact b4, by rw [m2]; exact hI1, ?_⟩ ?_ (fun z hz => ?_)
        · simp only [List.mem_cons, List.not_mem_nil, or_false, not_or] at hq
          rw [hm.1 q (by simp [hq]), b2 q hq.1]
        · rw [hm.2, b1]
          show va_up w.2 33 _ q = _
          simp only [va_up, hq, if_false]
        · intro i h0 hi
          have := hO1 i h0 hi
          simp only [hpG] at this ⊢
          rw [hm.2]
          exact this
        · rw [hm.2, b1]; rfl
        · show ¬ w1.1 35 z = -1 ↔ _
          rw [hR1 z hz]
          exact Classical.not_not
      refine ⟨fun h2 => ?_, fun h2 => ?_⟩
      · have h2 : ¬ w.1 35 (qn c) = -1 := h2
        obtain ⟨p, p1, p2, p3⟩ : ∃ i, i < s ∧ w.1 35 (qn c) = nI i ∧ w.1 34 i = nI (qn c) := by
          rcases hI.2.2.2 (qn c) hcM with z | z
          · exact absurd z h2
          · exact z
        conv => whnf
        have k34 : upd (w.1 34) p (nI (qn c)) = w.1 34 := by
          funext i; rw [upd_at]
          by_cases z : i = p
          · rw [if_pos z, z, p3]
          · rw [if_neg z]
        have k35 : upd (w.1 35) (qn c) (nI p) = w.1 35 := by
          funext i; rw [upd_at]
          by_cases z : i = qn c
          · rw [if_pos z, z, p2]
          · rw [if_neg z]
        have o35 : w.1 35 c.toNatClampNeg = nI p := p2
        refine qq_wk S (of_49 S (w := qq_ul w 33 c.toNatClampNeg x) (c := qn c) (s := s) (M := cM w) (X := X) (R := fun z => ¬ (cIn w z ∨ z = qn c)) ea hcM ex hX (by rw [eL, if_pos rfl]) hO2 (fin _ s rfl (fun _ _ => rfl) (fun _ _ => rfl) es) (p + 1) p (by omega) p1 (w.1 35 c.toNatClampNeg) _ o35 ⟨fun _ _ => rfl, rfl⟩ ?_ ⟨fun i h0 hi hne => ?_, fun h0 j j0 hj hje => ?_⟩ ?_) ⟨rfl, rfl, rfl, rfl, trivial⟩
        · show hpI (upd (w.1 34) p (nI (qn c))) (upd (w.1 35) (qn c) (nI p)) s (cM w)
          rw [k34, k35]; exact hI
        · have a1 := hOr i h0 hi
          show lq ((qq_ul w 33 c.toNatClampNeg x).2 33 (qn (upd (w.1 34) p (nI (qn c)) ((i - 1) / 2)))) ≤ lq ((qq_ul w 33 c.toNatClampNeg x).2 33 (qn (upd (w.1 34) p (nI (qn c)) i)))
          rw [k34, eL, eL]
          have hni : ¬ qn (w.1 34 i) = qn c := fun e => by
            obtain ⟨c', b1, b2, b3⟩ := hI.2.2.1 i hi
            rw [b2, qn_nI (by omega)] at e
            subst e
            exact hne ((nI_eq (by omega) (by omega)).mp (b3.symm.trans p2))
          rw [if_neg hni]
          by_cases y : qn (w.1 34 ((i - 1) / 2)) = qn c
          · rw [if_pos y]
            have a1 : lq (w.2 33 (qn (w.1 34 ((i - 1) / 2)))) ≤ lq (w.2 33 (qn (w.1 34 i))) := a1
            rw [y, eY, lq_lN (by omega)] at a1
            rw [ex, lq_lN (by omega)]
            omega
          · rw [if_neg y]; exact a1
        · have a1 : lq (w.2 33 (qn (w.1 34 ((p - 1) / 2)))) ≤ lq (w.2 33 (qn (w.1 34 p))) := hOr p h0 p1
          have a2 : lq (w.2 33 (qn (w.1 34 ((j - 1) / 2)))) ≤ lq (w.2 33 (qn (w.1 34 j))) := hOr j j0 hj
          rw [hje] at a2
          show lq ((qq_ul w 33 c.toNatClampNeg x).2 33 (qn (upd (w.1 34) p (nI (qn c)) ((p - 1) / 2)))) ≤ lq ((qq_ul w 33 c.toNatClampNeg x).2 33 (qn (upd (w.1 34) p (nI (qn c)) j)))
          rw [k34, eL, eL]
          have hn1 : ∀ i, i < s → i ≠ p → ¬ qn (w.1 34 i) = qn c := fun i hi hip e => by
            obtain ⟨c', b1, b2, b3⟩ := hI.2.2.1 i hi
            rw [b2, qn_nI (by omega)] at e
            subst e
            exact hip ((nI_eq (by omega) (by omega)).mp (b3.symm.trans p2))
          rw [if_neg (hn1 _ (by omega) (by omega)), if_neg (hn1 _ hj (by omega))]
          omega
        · intro z hz
          show upd (w.1 35) (qn c) (nI p) z = -1 ↔ _
          rw [k35]
          by_cases y : z = qn c
          · subst y
            exact ⟨fun e => absurd e h2, fun e => absurd (Or.inr rfl) e⟩
          · exact ⟨fun e t => t.elim (fun u => u e) y, fun e => Classical.byContradiction fun u => e (Or.inl u)⟩
      · have h2 : w.1 35 (qn c) = -1 := h2
        conv => whnf
        have hN := hp_new hI hcM h2
        have hs1 := hN.1
        have o73 : w.1 7 3 + 1 = nI (s + 1) := i_s es
        refine qq_wk S (of_49 S (w := qq_ui (qq_ul w 33 c.toNatClampNeg x) 7 3 (w.1 7 3 + 1)) (c := qn c) (s := s + 1) (M := cM w) (X := X) (R := fun z => ¬ (cIn w z ∨ z = qn c)) ea hcM ex hX (by show (qq_ul w 33 c.toNatClampNeg x).2 33 (qn c) = x; rw [eL, if_pos rfl]) hO2 (fin _ (s + 1) rfl (fun q hq => ?_) (fun j hj => ?_) o73) (s + 1) s (by omega) (by omega) (w.1 7 3) _ es ⟨fun _ _ => rfl, rfl⟩ hN ⟨fun i h0 hi hne => ?_, fun h0 j j0 hj hje => ?_⟩ ?_) ⟨rfl, rfl, rfl, rfl, trivial⟩
        · simp only [qq_ui, qq_ul, va_up, hq, if_false]
        · show upd (w.1 7) 3 _ j = _
          rw [upd_at, if_neg hj]
        · have a1 := hOr i h0 (by omega)
          show lq ((qq_ul w 33 c.toNatClampNeg x).2 33 (qn (upd (w.1 34) s (nI (qn c)) ((i - 1) / 2)))) ≤ lq ((qq_ul w 33 c.toNatClampNeg x).2 33 (qn (upd (w.1 34) s (nI (qn c)) i)))
          rw [upd_at, if_neg (by omega), upd_at, if_neg (by omega), eL, eL]
          have hn1 : ∀ i, i < s → ¬ qn (w.1 34 i) = qn c := fun i hi e => by
            obtain ⟨c', b1, b2, b3⟩ := hI.2.2.1 i hi
            rw [b2, qn_nI (by omega)] at e
            subst e
            exact nI_m1 (by omega) (b3.symm.trans h2)
          rw [if_neg (hn1 _ (by omega)), if_neg (hn1 _ (by omega))]
          exact a1
        · omega
        · intro z hz
          show upd (w.1 35) (qn c) (nI s) z = -1 ↔ _
          rw [upd_at]
          by_cases y : z = qn c
          · rw [if_pos y]
            exact ⟨fun e => absurd e (nI_m1 (by omega)), fun e => absurd (Or.inr y) e⟩
          · rw [if_neg y]
            exact ⟨fun e t => t.elim (fun u => u e) y, fun e => Classical.byContradiction fun u => e (Or.inl u)⟩
    · conv => whnf
      exact hq0 fun y => h (lcmp_lt.mpr y)
  · exact h.elim
theorem ha_X4_offer : ∀ As w P, T_X4_offer As w P → qq_wd As ≤ 6 := by
  intro As w P h
  unfold T_X4_offer at h
  split at h
  · exact Nat.le_of_ble_eq_true rfl
  · exact h.elim
theorem hv_X4_offer : ∀ As w P, T_X4_offer As w P → ∃ (k : Nat) (r : List Value) (fs : List Nat), As = .ref k :: r ∧ ww_sh[k]? = some (.inr (4, fs)) := by
  intro As w P h
  unfold T_X4_offer at h
  split at h
  · exact ⟨_, _, _, rfl, rfl⟩
  · exact h.elim
set_option maxRecDepth 100000 in
theorem M_X4_offer (l : Launch) : qq_M l ww_T ww_N vwCl ww_sh ww_ro ww_zs yX4_offer cX4_offer 6 none (ww_rm 1) T_X4_offer := by
  refine qq_mk (host := RX7) (is := ki_X4_offer) (cs := cs_X4_offer) (by decide) ww_k1 wl_X4 ww_so ww_so2 kc_X4_offer kv_X4_offer kg_X4_offer ?_ ha_X4_offer bd_X4_offer
  intro k i q hi hq
  match k, hi, hq with
  | 0, hi, hq => cases hi; cases hq; exact fun p e s m args below meth c D tys tC ad Q pc X hdg => qq_cV (ci := 4) X ww_gd (M_X4_put l) kf_X4_put.1 (Or.inl (ww_a3 (i := 204) (w := Cond.methodLink RX4 37 yX4_put) rfl rfl)) kf_X4_put.2.1 kf_X4_put.2.2.1 kf_X4_put.2.2.2 ⟨by decide, by decide, by decide +kernel⟩ rfl rfl rfl ⟨by decide, by decide⟩ ⟨Nat.le_refl _, Nat.le_refl _⟩ hv_X4_put hdg
  | n + 1, hi, hq => simp [cs_X4_offer] at hq
