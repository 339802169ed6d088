theorem nI_m5 {i : Nat} (h : i < 2 ^ 31) : ¬ nI i = -5 := by
  intro e
  rcases Nat.eq_zero_or_pos i with z | z
  · subst z; exact absurd e (by decide)
  · have := congrArg qn e
    rw [qn_nI h] at this
    have e2 : qn (-5) = 0 := by decide
    omega
abbrev cs_X2_findEntries : List (Nat × qq_t) := [(3, T_X5_isBeginning), (2, T_X2_nearestEntry), (3, T_X2_enterFrom)]
theorem cWD_x {w w1 : qq_w} (N : Nat) (h : ∀ q, q ≠ 23 → w1.1 q = w.1 q) (h2 : w1.2 33 = w.2 33) : cWD w1 N = cWD w N := by
  unfold cWD
  have a1 : cBg w1 = cBg w := by
    funext n f
    unfold cBg cBegin
    rw [h 12 (by decide), h 2 (by decide), h 9 (by decide)]
  have a2 : cLvK w1 = cLvK w := by
    funext N n d f b
    unfold cLvK
    rw [h2]
  have a3 : cPr w1 = cPr w := by
    funext n m
    unfold cPr cX
    rw [h 12 (by decide), h 13 (by decide)]
  have a4 : cGoI w1 = cGoI w := by
    funext c f m g
    unfold cGoI cX
    rw [h 12 (by decide), h 13 (by decide), h 19 (by decide)]
  rw [a1, a2, a3, a4]
theorem cEDc_x {w w1 : qq_w} (N : Nat) (h : ∀ q, q ≠ 23 → w1.1 q = w.1 q) (h2 : w1.2 33 = w.2 33) : cEDc w1 N = cEDc w N := by
  funext c L
  unfold cEDc
  rw [cWD_x N h h2, h 12 (by decide)]
theorem eClC_x {w w1 w' : qq_w} {p d V c e : Nat} (h : ∀ q, q ≠ 23 → w1.1 q = w.1 q) (h2 : w1.2 33 = w.2 33) : eClC w1 w' p d V c e ↔ eClC w w' p d V c e := by
  unfold eClC cX
  rw [h 13 (by decide), h 19 (by decide), h2]
/-- entries are found -/
def eFin (w w' : qq_w) (N M : Nat) : Prop := (∀ q, q ≠ 23 → w'.1 q = w.1 q) ∧ (∀ q, q ≠ 22 → w'.2 q = w.2 q) ∧ lOk (w'.2 22) 2000000000000 (13 * M) ∧ (∀ c L, c < 13 * M → w'.2 22 c = lN L → L ≤ 1000000000000 → cEDc w N c L) ∧ (∀ f, f < 13 → 0 < M → bt (cBegin w) f = true → w'.2 22 f = lN 0) ∧ ∀ p d a, p < M → d < 13 → w'.2 22 (13 * p + d) = lN a → a ≤ 1000000000000 → ∀ c e, c < N → e < 13 → eClC w w' p d a c e
def T_X2_findEntries : qq_t := fun As w P => match As with
  | [.ref 4] => (cPW w (qn (w.1 1 10)) ∧ (∀ j, fs (w.1 19 j)) ∧ lOk (w.2 33) 2000000000000 (cM w) ∧ cOwn w (qn (w.1 1 10)) (qn (w.1 1 9)) ∧ vp_in (w.1 1 9) 9 ∧ cE0 w (qn (w.1 1 10))) ∧ ∀ w', eFin w w' (qn (w.1 1 10)) (qn (w.1 1 9)) → P none w'
  | _ => False
def eSt (w : qq_w) (N M : Nat) (w1 : qq_w) : Prop := (∀ q, q ≠ 23 → w1.1 q = w.1 q) ∧ (∀ q, q ≠ 22 → w1.2 q = w.2 q) ∧ lOk (w1.2 22) 2000000000000 (13 * M) ∧ (∀ c L, c < 13 * M → w1.2 22 c = lN L → L ≤ 1000000000000 → cEDc w N c L) ∧ (∀ f, f < 13 → 0 < M → bt (cBegin w) f = true → w1.2 22 f = lN 0) ∧ (∃ b, b ≤ 1000000000000 ∧ (∀ c, c < 13 * M → ¬ w1.1 23 c = 0 → lq (w1.2 22 c) ≤ b) ∧ ∀ c, c < 13 * M → w1.1 23 c = 0 → b ≤ lq (w1.2 22 c)) ∧ ∀ p d a, p < M → d < 13 → ¬ w1.1 23 (13 * p + d) = 0 → w1.2 22 (13 * p + d) = lN a → a ≤ 1000000000000 → ∀ c e, c < N → e < 13 → eClC w w1 p d a c e
def eDj0 (w : qq_w) (N M : Nat) : Prop := cPW w N ∧ (∀ j, fs (w.1 19 j)) ∧ lOk (w.2 33) 2000000000000 (cM w) ∧ cOwn w N M ∧ M ≤ 8 ∧ w.1 1 9 = nI M
theorem eSt_dj {w w1 : qq_w} {N M : Nat} (h0 : eDj0 w N M) (o : ∀ q, q ≠ 23 → w1.1 q = w.1 q) (o2 : ∀ q, q ≠ 22 → w1.2 q = w.2 q) (h3 : lOk (w1.2 22) 2000000000000 (13 * M)) (h4 : ∀ c L, c < 13 * M → w1.2 22 c = lN L → L ≤ 1000000000000 → cEDc w N c L) : eDj w1 N M := by
  obtain ⟨a1, a2, a3, a4, a5, a6⟩ := h0
  refine ⟨?_, by rw [o 19 (by decide)]; exact a2, by unfold cM; rw [o 1 (by decide), o2 33 (by decide)]; exact a3, ?_, a5, by rw [o 1 (by decide)]; exact a6, h3, by rw [cEDc_x N o (o2 33 (by decide))]; exact h4⟩
  · unfold cPW cX at a1 ⊢
    rw [o 1 (by decide), o 13 (by decide), o 12 (by decide), o2 17 (by decide)]
    exact a1
  · unfold cOwn cX at a4 ⊢
    rw [o 13 (by decide), o 12 (by decide)]
    exact a4
theorem fe_64 {P : Option Value → qq_w → Prop} {K : Nat → qq_L → List Value → qq_w → Prop} (S : qq_Sat ww_sh ww_ro cs_X2_findEntries (qq_at 108 kd_X2_findEntries) none P K) {w : qq_w} {x1 : Int32} {N M : Nat} (h0 : eDj0 w N M) (e1 : x1 = nI (13 * M)) (hq : ∀ w', eFin w w' N M → P none w') :
    ∀ m i, i + m = 13 * M → ∀ (x2 : Int32) (w1 : qq_w), x2 = nI i → eSt w N M w1 → (∃ t : Nat → Nat, (∀ k, k < i → t k < 13 * M ∧ ¬ w1.1 23 (t k) = 0) ∧ ∀ k k', k < i → k' < i → t k = t k' → k = k') → K 64 [(0, .ref 4), (1, .int x1), (2, .int x2)] [] w1 := by
  have hM8 := h0.2.2.2.2.1
  have hN := h0.1.2.1
  intro m
  induction m with
  | zero =>
    intro i hi x2 w1 e2 h1 ht
    have : i = 13 * M := by omega
    obtain ⟨b1, b2, b3, b4, b5, ⟨b, b6, b7, b8⟩, b9⟩ := h1
    refine qq_go_ok S (fun pc => Nat.beq pc 64) 60 ?_
    conv => whnf
    refine br_t (i_ge' e2 e1 (by omega) (by omega)) ?_
    conv => whnf
    refine hq w1 ⟨b1, b2, b3, b4, b5, fun p d a hp hd ea ha c e hc he => b9 p d a hp hd (fun z => ?_) ea ha c e hc he⟩
    obtain ⟨t, t1, t2⟩ := ht
    have := pg_le (13 * M) (i + 1) (fun k => if k < i then t k else 13 * p + d) (fun k hk => ?_) (fun k k' hk hk' e => ?_)
    · omega
    · show (if k < i then t k else 13 * p + d) < 13 * M
      split
      · rename_i y
        exact (t1 k y).1
      · omega
    · have e : (if k < i then t k else 13 * p + d) = (if k' < i then t k' else 13 * p + d) := e
      by_cases y : k < i
      · rw [if_pos y] at e
        by_cases y' : k' < i
        · rw [if_pos y'] at e
          exact t2 k k' y y' e
        · rw [if_neg y'] at e
          exact absurd (by rw [e]; exact z) (t1 k y).2
      · rw [if_neg y] at e
        by_cases y' : k' < i
        · rw [if_pos y'] at e
          exact absurd (by rw [← e]; exact z) (t1 k' y').2
        · omega
  | succ m ih =>
    intro i hi x2 w1 e2 h1 ht
    have h1' := h1
    obtain ⟨b1, b2, b3, b4, b5, ⟨b, b6, b7, b8⟩, b9⟩ := h1
    have q1 : qn x1 = 13 * M := by rw [e1]; exact qn_nI (by omega)
    refine qq_go_ok S (fun pc => Nat.beq pc 64) 60 ?_
    conv => whnf
    refine br_f (i_lt' e2 e1 (by omega) (by omega)) ?_
    conv => whnf
    refine ⟨⟨i_in 105 e1 (by omega) (by decide), by rw [q1]; exact b3⟩, fun hno => ?_, fun c0 hc0 ht0 hk0 hmin => ?_⟩
    · have hno : ∀ i, i < qn x1 → w1.1 23 i = 0 → ¬ lq (w1.2 22 i) ≤ 1000000000000 := hno
      rw [q1] at hno
      conv => whnf
      refine br_nf rfl ?_
      conv => whnf
      refine hq w1 ⟨b1, b2, b3, b4, b5, fun p d a hp hd ea ha c e hc he => b9 p d a hp hd (fun z => ?_) ea ha c e hc he⟩
      refine hno (13 * p + d) (by omega) z ?_
      rw [ea, lq_lN (by omega)]
      exact ha
    · have hc0 : c0 < qn x1 := hc0
      have hmin : ∀ i, i < qn x1 → w1.1 23 i = 0 → lq (w1.2 22 c0) ≤ lq (w1.2 22 i) := hmin
      rw [q1] at hc0 hmin
      obtain ⟨V, eV, hV⟩ := b3 c0 hc0
      rw [eV, lq_lN (by omega)] at hk0 hmin
      have d1 := r_div (x := nI c0) rfl (by omega)
      have d2 := r_rem (x := nI c0) rfl (by omega)
      have qd1 : qn (nI c0 / 13) = c0 / 13 := by rw [d1]; exact qn_nI (by omega)
      have qd2 : qn (nI c0 - nI c0 / 13 * 13) = c0 % 13 := by rw [d2]; exact qn_nI (by omega)
      have ec0 : 13 * (c0 / 13) + c0 % 13 = c0 := by omega
      have icc : (nI c0).toNatClampNeg = c0 := i_c rfl (by omega)
      generalize hw2 : qq_ui w1 23 (nI c0).toNatClampNeg 1 = w2
      have k23 : ∀ c, w2.1 23 c = if c = c0 then 1 else w1.1 23 c := fun c => by
        rw [← hw2]
        show upd (w1.1 23) (nI c0).toNatClampNeg 1 c = _
        rw [icc, upd_at]
      have ko : ∀ q, q ≠ 23 → w2.1 q = w.1 q := fun q hq => by
        rw [← b1 q hq, ← hw2]
        simp only [qq_ui, va_up, hq, if_false]
      have k2 : w2.2 = w1.2 := by rw [← hw2]; rfl
      have hj2 : eDj w2 N M := eSt_dj h0 ko (fun q hq => by rw [k2]; exact b2 q hq) (by rw [k2]; exact b3) (by rw [k2]; exact b4)
      have q10 : qn (w2.1 1 10) = N := cN_N hj2.1
      have q9 : qn (w2.1 1 9) = M := by rw [hj2.2.2.2.2.2.1]; exact qn_nI (by omega)
      have hef : T_X2_enterFrom [.ref 4, .int (nI c0 / 13), .int (nI c0 - nI c0 / 13 * 13)] w2 (fun _ w' => K 64 [(0, .ref 4), (1, .int x1), (2, .int (x2 + 1))] [] w') := by
        refine ⟨V, ⟨i_in 8 d1 (by omega) (by decide), i_in 13 d2 (by omega) (by decide), by rw [q10, q9]; exact hj2, by rw [qd1, q9]; omega, by rw [qd1, qd2, ec0, k2]; exact eV, hk0⟩, fun w3 j1 j2 => ?_⟩
        rw [q9, q10] at j1
        rw [q10, qd1, qd2] at j2
        have o33 : w2.2 33 = w.2 33 := by rw [k2]; exact b2 33 (by decide)
        rw [cEDc_x N ko o33] at j1
        have w3o : ∀ q, q ≠ 23 → w3.1 q = w.1 q := fun q hq => by rw [j1.1]; exact ko q hq
        have w3o2 : ∀ q, q ≠ 22 → w3.2 q = w.2 q := fun q hq => by rw [j1.2.1 q hq, k2]; exact b2 q hq
        have w323 : ∀ c, w3.1 23 c = if c = c0 then 1 else w1.1 23 c := fun c => by rw [j1.1]; exact k23 c
        have hle : ∀ c, c < 13 * M → lq (w3.2 22 c) ≤ lq (w1.2 22 c) := fun c hc => by
          have := eRl_le j1 hc
          rw [k2] at this
          exact this
        have hbV : b ≤ V := by
          have := b8 c0 hc0 ht0
          rw [eV, lq_lN (by omega)] at this
          exact this
        have hpop : ∀ c, c < 13 * M → lq (w1.2 22 c) ≤ V → w3.2 22 c = w1.2 22 c := fun c hc hl => by
          have := eRl_pop j1 hc (by rw [k2]; exact hl)
          rw [k2] at this
          exact this
        refine ih (i + 1) (by omega) _ w3 (i_s e2) ⟨w3o, w3o2, ?_, ?_, ?_, ⟨V, hk0, ?_, ?_⟩, ?_⟩ ?_
        · exact eRl_ok j1 (by rw [k2]; exact b3)
        · intro c L hc e hL
          rcases j1.2.2 c hc with z | ⟨L', -, z2, z3, -, z6⟩
          · rw [z, k2] at e; exact b4 c L hc e hL
          · rw [z3] at e
            have := (lL_eq (by omega) (by omega)).mp e
            subst this
            exact z6
        · intro f hf hM hbf
          rw [hpop f (by omega) (by rw [b5 f hf hM hbf, lq_lN (by omega)]; omega)]
          exact b5 f hf hM hbf
        · intro c hc hn
          rw [w323] at hn
          by_cases q : c = c0
          · rw [q, hpop c0 hc0 (by rw [eV, lq_lN (by omega)]; exact Nat.le_refl _), eV, lq_lN (by omega)]
            exact Nat.le_refl _
          · rw [if_neg q] at hn
            have := hle c hc
            have := b7 c hc hn
            omega
        · intro c hc hn
          rw [w323] at hn
          by_cases q : c = c0
          · rw [if_pos q] at hn
            exact absurd hn (by decide)
          · rw [if_neg q] at hn
            rcases j1.2.2 c hc with z | ⟨L', z1, z2, z3, -⟩
            · rw [z, k2]; exact hmin c hc hn
            · rw [z3, lq_lN (by omega)]; exact z1
        · intro p d a hp hd hn ea ha c e hc he
          rw [w323] at hn
          by_cases q : 13 * p + d = c0
          · have hp2 : p = c0 / 13 := by omega
            have hd2 : d = c0 % 13 := by omega
            have : w3.2 22 c0 = w1.2 22 c0 := hpop c0 hc0 (by rw [eV, lq_lN (by omega)]; exact Nat.le_refl _)
            rw [q, this, eV] at ea
            have hVa : V = a := (lL_eq (by omega) (by omega)).mp ea
            subst hVa
            rw [hp2, hd2]
            exact (eClC_x ko o33).mp (j2 c e hc he)
          · rw [if_neg q] at hn
            have hl := b7 (13 * p + d) (by omega) hn
            have e3 := hpop (13 * p + d) (by omega) (by omega)
            rw [e3] at ea
            intro z1 z2 b' g z3 z4 z5
            have hg := fs_lt (h0.2.1 _) z5
            have hcal := h0.2.2.2.1.2 c hc z1
            exact Nat.le_trans (hle _ (by omega)) (b9 p d a hp hd hn ea ha c e hc he z1 z2 b' g z3 z4 z5)
        · obtain ⟨t, t1, t2⟩ := ht
          refine ⟨fun k => if k < i then t k else c0, fun k hk => ?_, fun k k' hk hk' e => ?_⟩
          · show (if k < i then t k else c0) < _ ∧ ¬ w3.1 23 (if k < i then t k else c0) = 0
            by_cases y : k < i
            · rw [if_pos y]
              refine ⟨(t1 k y).1, ?_⟩
              rw [w323]
              split
              · decide
              · exact (t1 k y).2
            · rw [if_neg y, w323, if_pos rfl]
              exact ⟨hc0, by decide⟩
          · have e : (if k < i then t k else c0) = (if k' < i then t k' else c0) := e
            by_cases y : k < i
            · rw [if_pos y] at e
              by_cases y' : k' < i
              · rw [if_pos y'] at e
                exact t2 k k' y y' e
              · rw [if_neg y'] at e
                exact absurd (by rw [e]; exact ht0) (t1 k y).2
            · rw [if_neg y] at e
              by_cases y' : k' < i
              · rw [if_pos y'] at e
                exact absurd (by rw [← e]; exact ht0) (t1 k' y').2
              · omega
      conv => whnf
      refine br_nt (nI_m5 (by omega)) ?_
      conv => whnf
      refine ⟨⟨i_in 104 (k := c0) rfl (by omega) (by decide), Or.inr rfl⟩, ?_⟩
      conv => whnf
      refine ⟨by decide, ?_⟩
      conv => whnf
      refine ⟨by decide, ?_⟩
      rw [← hw2] at hef
      conv => whnf
      obtain ⟨V', pre, post⟩ := hef
      refine ⟨V', pre, fun w' a1 a2 => ?_⟩
      have key := post w' a1 a2
      conv => whnf
      exact qq_wk S key ⟨rfl, rfl, rfl, trivial⟩
theorem fe_13 {P : Option Value → qq_w → Prop} {K : Nat → qq_L → List Value → qq_w → Prop} (S : qq_Sat ww_sh ww_ro cs_X2_findEntries (qq_at 108 kd_X2_findEntries) none P K) {w : qq_w} {x1 : Int32} {M : Nat} (hM8 : M ≤ 8) (e1 : x1 = nI (13 * M))
    (hk : ∀ w1, (∀ q, q ≠ 23 → w1.1 q = w.1 q) → (∀ q, q ≠ 22 → w1.2 q = w.2 q) → (∀ c, c < 13 * M → w1.1 23 c = 0 ∧ (((c / 13 = 0 ∧ bt (cBegin w) (c % 13) = true) ∧ w1.2 22 c = lN 0) ∨ (¬ (c / 13 = 0 ∧ bt (cBegin w) (c % 13) = true) ∧ w1.2 22 c = lN 2000000000000))) → K 64 [(0, .ref 4), (1, .int x1), (2, .int 0)] [] w1) :
    ∀ m i, i + m = 13 * M → ∀ (x2 : Int32) (w1 : qq_w), x2 = nI i → (∀ q, q ≠ 23 → w1.1 q = w.1 q) → (∀ q, q ≠ 22 → w1.2 q = w.2 q) → (∀ c, c < i → w1.1 23 c = 0 ∧ (((c / 13 = 0 ∧ bt (cBegin w) (c % 13) = true) ∧ w1.2 22 c = lN 0) ∨ (¬ (c / 13 = 0 ∧ bt (cBegin w) (c % 13) = true) ∧ w1.2 22 c = lN 2000000000000))) → K 13 [(0, .ref 4), (1, .int x1), (2, .int x2)] [] w1 := by
  intro m
  induction m with
  | zero =>
    intro i hi x2 w1 e2 o o2 h1
    have : i = 13 * M := by omega
    refine qq_go_ok S (fun pc => Nat.beq pc 13 || Nat.beq pc 64) 60 ?_
    conv => whnf
    refine br_t (i_ge' e2 e1 (by omega) (by omega)) ?_
    conv => whnf
    exact qq_wk S (hk w1 o o2 (fun c hc => h1 c (by omega))) ⟨rfl, rfl, rfl, trivial⟩
  | succ m ih =>
    intro i hi x2 w1 e2 o o2 h1
    have d1 := r_div e2 (by omega)
    have d2 := r_rem e2 (by omega)
    have qd2 : qn (x2 - x2 / 13 * 13) = i % 13 := by rw [d2]; exact qn_nI (by omega)
    have eb : cBegin w1 = cBegin w := by
      unfold cBegin
      rw [o 2 (by decide), o 9 (by decide)]
    have hz : x2 / 13 = 0 ↔ i / 13 = 0 := by
      rw [d1]
      exact nI_eq (b := 0) (by omega) (by omega)
    have go : ∀ v : Int64, (((i / 13 = 0 ∧ bt (cBegin w) (i % 13) = true) ∧ v = lN 0) ∨ (¬ (i / 13 = 0 ∧ bt (cBegin w) (i % 13) = true) ∧ v = lN 2000000000000)) → K 13 [(0, .ref 4), (1, .int x1), (2, .int (x2 + 1))] [] (qq_ui (qq_ul w1 22 x2.toNatClampNeg v) 23 x2.toNatClampNeg 0) := fun v hv => by
      have icc : x2.toNatClampNeg = i := i_c e2 (by omega)
      refine ih (i + 1) (by omega) _ _ (i_s e2) (fun q hq => ?_) (fun q hq => ?_) (fun c hc => ?_)
      · rw [← o q hq]
        simp only [qq_ui, qq_ul, va_up, hq, if_false]
      · rw [← o2 q hq]
        show va_up w1.2 22 _ q = _
        simp only [va_up, hq, if_false]
      · have a1 : (qq_ui (qq_ul w1 22 x2.toNatClampNeg v) 23 x2.toNatClampNeg 0).1 23 c = if c = i then 0 else w1.1 23 c := by
          show upd (w1.1 23) x2.toNatClampNeg 0 c = _
          rw [icc, upd_at]
        have a2 : (qq_ui (qq_ul w1 22 x2.toNatClampNeg v) 23 x2.toNatClampNeg 0).2 22 c = if c = i then v else w1.2 22 c := by
          show vp_updL (w1.2 22) x2.toNatClampNeg v c = _
          rw [icc, updL_at]
        rw [a1, a2]
        by_cases q : c = i
        · rw [if_pos q, if_pos q, q]
          exact ⟨rfl, hv⟩
        · rw [if_neg q, if_neg q]
          exact h1 c (by omega)
    refine qq_go_ok S (fun pc => Nat.beq pc 13) 60 ?_
    conv => whnf
    refine br_f (i_lt' e2 e1 (by omega) (by omega)) ?_
    conv => whnf
    refine ⟨by decide, ?_⟩
    conv => whnf
    refine ⟨by decide, ?_⟩
    conv => whnf
    refine ⟨i_in 13 d2 (by omega) (by decide), fun z => ?_, fun z => ?_⟩
    · have z : x2 / 13 = 0 ∧ bt (cBegin w1) (qn (x2 - x2 / 13 * 13)) = true := z
      rw [hz, eb, qd2] at z
      conv => whnf
      refine br_f (by decide) ?_
      conv => whnf
      refine ⟨i_in 104 e2 (by omega) (by decide), ?_⟩
      conv => whnf
      refine ⟨⟨i_in 104 e2 (by omega) (by decide), Or.inl rfl⟩, ?_⟩
      conv => whnf
      exact qq_wk S (go 0 (Or.inl ⟨z, rfl⟩)) ⟨rfl, rfl, rfl, trivial⟩
    · have z : ¬ (x2 / 13 = 0 ∧ bt (cBegin w1) (qn (x2 - x2 / 13 * 13)) = true) := z
      rw [hz, eb, qd2] at z
      conv => whnf
      refine br_t rfl ?_
      conv => whnf
      refine ⟨i_in 104 e2 (by omega) (by decide), ?_⟩
      conv => whnf
      refine ⟨⟨i_in 104 e2 (by omega) (by decide), Or.inl rfl⟩, ?_⟩
      conv => whnf
      exact qq_wk S (go 2000000000000 (Or.inr ⟨z, rfl⟩)) ⟨rfl, rfl, rfl, trivial⟩
set_option maxHeartbeats 4000000 in
set_option maxRecDepth 100000 in
theorem bd_X2_findEntries : ∀ As w P K, qq_Sat ww_sh ww_ro cs_X2_findEntries (qq_at 108 kd_X2_findEntries) none P K → T_X2_findEntries As w P → K 0 (lv_args 0 As) [] w := by
  intro As w P K S h
  unfold T_X2_findEntries at h
  split at h
  · skip
    obtain ⟨⟨hP, hfs, hO3, hOw, hpr, hE⟩, hq⟩ := h
    obtain ⟨eM, hM⟩ := qn_eq hpr (by decide)
    have hN := hP.2.1
    have e13 : w.1 1 9 * 13 = nI (13 * qn (w.1 1 9)) := by
      have := nI_ml eM (x := 0) (i := 0) rfl (nI_lit 13)
      rw [Int32.add_zero] at this
      exact this
    have h0 : eDj0 w (qn (w.1 1 10)) (qn (w.1 1 9)) := ⟨hP, hfs, hO3, hOw, by omega, eM⟩
    refine qq_go_ok S (fun pc => Nat.beq pc 13) 60 ?_
    conv => whnf
    refine qq_wk S (fe_13 S (w := w) (x1 := w.1 1 9 * 13) (M := qn (w.1 1 9)) (by omega) e13 (fun w1 o o2 h1 => ?_) (13 * qn (w.1 1 9)) 0 (Nat.zero_add _) _ w rfl (fun _ _ => rfl) (fun _ _ => rfl) (fun c hc => absurd hc (by omega))) ⟨rfl, rfl, rfl, trivial⟩
    refine fe_64 S (w := w) h0 e13 hq (13 * qn (w.1 1 9)) 0 (Nat.zero_add _) _ w1 rfl ⟨o, o2, fun c hc => ?_, fun c L hc e hL => ?_, fun f hf hM0 hb => ?_, ⟨0, by omega, fun c hc hn => absurd (h1 c hc).1 hn, fun _ _ _ => Nat.zero_le _⟩, fun p d a hp hd hn => absurd (h1 _ (by omega)).1 hn⟩ ⟨fun _ => 0, fun k hk => absurd hk (by omega), fun k k' hk => absurd hk (by omega)⟩
    · rcases (h1 c hc).2 with ⟨-, z⟩ | ⟨-, z⟩
      · exact ⟨0, z, Or.inl (by omega)⟩
      · exact ⟨_, z, Or.inr rfl⟩
    · rcases (h1 c hc).2 with ⟨⟨z1, z2⟩, z⟩ | ⟨-, z⟩
      · rw [z] at e
        have : 0 = L := (lL_eq (by omega) (by omega)).mp e
        subst this
        obtain ⟨l, hl, el, -⟩ := hE.1 0 (by omega)
        exact ⟨l, hl, by rw [z1]; exact el, WDer.bg ⟨by omega, el, z2⟩ (by omega)⟩
      · rw [z] at e
        have := (lL_eq (by omega) (by omega)).mp e
        omega
    · rcases (h1 f (by omega)).2 with ⟨-, z⟩ | ⟨z1, -⟩
      · exact z
      · exact absurd ⟨by omega, by rw [show f % 13 = f by omega]; exact hb⟩ z1
  · exact h.elim
theorem ha_X2_findEntries : ∀ As w P, T_X2_findEntries As w P → qq_wd As ≤ 4 := by
  intro As w P h
  unfold T_X2_findEntries at h
  split at h
  · exact Nat.le_of_ble_eq_true rfl
  · exact h.elim
theorem hv_X2_findEntries : ∀ As w P, T_X2_findEntries As w P → ∃ (k : Nat) (r : List Value) (fs : List Nat), As = .ref k :: r ∧ ww_sh[k]? = some (.inr (2, fs)) := by
  intro As w P h
  unfold T_X2_findEntries at h
  split at h
  · exact ⟨_, _, _, rfl, rfl⟩
  · exact h.elim
set_option maxRecDepth 100000 in
theorem M_X2_findEntries (l : Launch) : qq_M l ww_T ww_N vwCl ww_sh ww_ro ww_zs yX2_findEntries cX2_findEntries 4 none (ww_rm 3) T_X2_findEntries := by
  refine qq_mk (host := RX7) (is := ki_X2_findEntries) (cs := cs_X2_findEntries) (by decide) ww_k1 wl_X2 ww_so ww_so2 kc_X2_findEntries kv_X2_findEntries kg_X2_findEntries ?_ ha_X2_findEntries bd_X2_findEntries
  intro k i q hi hq
  match k, hi, hq with
  | 0, hi, hq => cases hi; cases hq; exact fun p e s m args below meth c D tys tC ad Q pc X hdg => qq_cV (ci := 5) X ww_gd (M_X5_isBeginning l) kf_X5_isBeginning.1 (Or.inl (ww_a4 (i := 14) (w := Cond.methodLink RX2 145 yX5_isBeginning) rfl rfl)) kf_X5_isBeginning.2.1 kf_X5_isBeginning.2.2.1 kf_X5_isBeginning.2.2.2 ⟨by decide, by decide, by decide +kernel⟩ rfl rfl rfl ⟨by decide, by decide⟩ ⟨Nat.le_refl _, Nat.le_refl _⟩ hv_X5_isBeginning hdg
  | 1, hi, hq => cases hi; cases hq; exact fun p e s m args below meth c D tys tC ad Q pc X hdg => qq_cV (ci := 2) X ww_gd (M_X2_nearestEntry l) kf_X2_nearestEntry.1 (Or.inl (ww_a4 (i := 18) (w := Cond.methodLink RX2 148 yX2_nearestEntry) rfl rfl)) kf_X2_nearestEntry.2.1 kf_X2_nearestEntry.2.2.1 kf_X2_nearestEntry.2.2.2 ⟨by decide, by decide, by decide +kernel⟩ rfl rfl rfl ⟨by decide, by decide⟩ ⟨Nat.le_refl _, Nat.le_refl _⟩ hv_X2_nearestEntry hdg
  | 2, hi, hq => cases hi; cases hq; exact fun p e s m args below meth c D tys tC ad Q pc X hdg => qq_cV (ci := 2) X ww_gd (M_X2_enterFrom l) kf_X2_enterFrom.1 (Or.inl (ww_a4 (i := 22) (w := Cond.methodLink RX2 151 yX2_enterFrom) rfl rfl)) kf_X2_enterFrom.2.1 kf_X2_enterFrom.2.2.1 kf_X2_enterFrom.2.2.2 ⟨by decide, by decide, by decide +kernel⟩ rfl rfl rfl ⟨by decide, by decide⟩ ⟨Nat.le_refl _, Nat.le_refl _⟩ hv_X2_enterFrom hdg
  | n + 3, hi, hq => simp [cs_X2_findEntries] at hq
