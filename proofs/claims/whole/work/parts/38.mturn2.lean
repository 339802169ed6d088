abbrev cs_X8_goesIn : List (Nat × qq_t) := [(4, T_X8_flows), (4, T_X8_reachAll), (4, T_X8_reaches), (4, T_X8_comesBack)]
/-- what the reference's turn from a CALL finds; what it sums up -/
def mInN (w : qq_w) (c d f G j e : Nat) : Prop := (j = 13 * qn (w.1 49 c) + d ∧ mF w c 0 f e) ∨ ∃ g, g < G ∧ mF w c 1 f g ∧ ((j = 13 * qn (w.1 39 (qn (w.1 47 c))) + g ∧ e = g) ∨ ∃ h d', h < 13 ∧ d' < 13 ∧ bt (w.1 56 (13 * qn (w.1 40 (qn (w.1 47 c))) + g)) h = true ∧ j = 13 * qn (w.1 49 c) + d' ∧ mF w c 2 h e ∧ bt (w.1 56 (13 * c + d')) f = true)
def mInM (w : qq_w) (c f G j e : Nat) : Prop := ∃ g h, g < G ∧ h < 13 ∧ mF w c 1 f g ∧ bt (w.1 56 (13 * qn (w.1 40 (qn (w.1 47 c))) + g)) h = true ∧ j = 13 * c + f ∧ mF w c 2 h e
def T_X8_goesIn : qq_t := fun As w P => match As with
  | [.ref 8, .int d, .int a, .int f] => ((vp_in d 13 ∧ vp_in a 64 ∧ vp_in f 13 ∧ mPW w (qn (w.1 8 8)) ∧ mSI w ∧ qn a < qn (w.1 8 8) ∧ w.1 43 (qn a) = 9) ∧ ∃ f, mW w f) ∧ ∀ w', mGo w w' (mInN w (qn a) (qn d) (qn f) 13) (mInM w (qn a) (qn f) 13) → P none w'
  | _ => False
theorem gi_94 {P : Option Value → qq_w → Prop} {K : Nat → qq_L → List Value → qq_w → Prop} (S : qq_Sat ww_sh ww_ro cs_X8_goesIn (qq_at 139 kd_X8_goesIn) none P K) {w w0 : qq_w} {d a f x4 x5 x6 x7 : Int32} {N n fn r : Nat} (hP : mPW w N) (hSI : mSI w) (hf : ∃ f, mW w f) (hn : n < N) (ea : a = nI n) (ef : f = nI fn) (hfn : fn < 13) (er : w.1 49 n = nI r) (hr : r < 64) (hrn : r ≠ n) {N0 M0 : Nat → Nat → Prop} (h0 : mGo w w0 N0 M0) (hrow0 : ∀ d' g, d' < 13 → (bt (w0.1 56 (13 * n + d')) g = true ↔ bt (w.1 56 (13 * n + d')) g = true))
    (hk : ∀ w1 : qq_w, mGo w0 w1 (fun j e => ∃ h d', h < 13 ∧ d' < 13 ∧ bt x7 h = true ∧ j = 13 * r + d' ∧ mF w n 2 h e ∧ bt (w.1 56 (13 * n + d')) fn = true) (fun j e => ∃ h, h < 13 ∧ bt x7 h = true ∧ j = 13 * n + fn ∧ mF w n 2 h e) → K 132 [(0, .ref 8), (1, .int d), (2, .int a), (3, .int f), (4, .int x4), (5, .int x5), (6, .int x6)] [] w1) :
    ∀ m i, i + m = 13 → ∀ (x8 : Int32) (w1 : qq_w), x8 = nI i → mGo w0 w1 (fun j e => ∃ h d', h < i ∧ d' < 13 ∧ bt x7 h = true ∧ j = 13 * r + d' ∧ mF w n 2 h e ∧ bt (w.1 56 (13 * n + d')) fn = true) (fun j e => ∃ h, h < i ∧ bt x7 h = true ∧ j = 13 * n + fn ∧ mF w n 2 h e) → K 94 [(0, .ref 8), (1, .int d), (2, .int a), (3, .int f), (4, .int x4), (5, .int x5), (6, .int x6), (7, .int x7), (8, .int x8)] [] w1 := by
  have hN := hP.2.1
  have qa : qn a = n := by rw [ea]; exact qn_nI (by omega)
  have qf : qn f = fn := by rw [ef]; exact qn_nI (by omega)
  intro m
  induction m with
  | zero =>
    intro i hi x8 w1 e8 h1
    have : i = 13 := by omega
    subst this
    refine qq_go_ok S (fun pc => Nat.beq pc 94 || Nat.beq pc 132) 60 ?_
    conv => whnf
    refine br_t (i_ge 13 e8 (by omega) (by omega)) ?_
    conv => whnf
    exact qq_wk S (hk w1 h1) ⟨rfl, rfl, rfl, rfl, rfl, rfl, rfl, trivial⟩
  | succ m ih =>
    intro i hi x8 w1 e8 h1
    have h01 := mGo_tr h0 h1 (fun j e => Iff.rfl) (fun j e => Iff.rfl)
    obtain ⟨s1, s2⟩ := mGo_same h01
    have hP1 := mPW_go h01 hP
    have hrow : ∀ d' g, d' < 13 → (bt (w1.1 56 (13 * n + d')) g = true ↔ bt (w.1 56 (13 * n + d')) g = true) := by
      intro d' g hd'
      rw [h1.2.2.2.2.1, ← hrow0 d' g hd']
      constructor
      · rintro (z | ⟨h', d2, -, z1, -, z2, -⟩)
        · exact z
        · omega
      · exact Or.inl
    refine qq_go_ok S (fun pc => Nat.beq pc 94 || Nat.beq pc 132) 80 ?_
    conv => whnf
    refine br_f (i_nge 13 e8 (by omega) (by omega)) ?_
    conv => whnf
    have hb1 : (x7 >>> (x8 &&& 31)) &&& 1 = 1 ↔ bt x7 i = true := by rw [e8]; exact b_has1 (by omega) _
    refine ⟨fun h => ?_, fun h => ?_⟩
    · have h : ¬ bt x7 i = true := fun z => h (hb1.mpr z)
      conv => whnf
      refine qq_wk S (ih (i + 1) (by omega) _ _ (i_s e8) (mGo_iff h1 (fun j e => ⟨?_, ?_⟩) (fun j e => ⟨?_, ?_⟩))) ⟨rfl, rfl, rfl, rfl, rfl, rfl, rfl, rfl, rfl, trivial⟩
      · rintro ⟨h', d', y1, y2⟩; exact ⟨h', d', by omega, y2⟩
      · rintro ⟨h', d', y1, y2, y3, y4⟩
        by_cases q : h' = i
        · subst q; exact absurd y3 h
        · exact ⟨h', d', by omega, y2, y3, y4⟩
      · rintro ⟨h', y1, y2⟩; exact ⟨h', by omega, y2⟩
      · rintro ⟨h', y1, y2, y3⟩
        by_cases q : h' = i
        · subst q; exact absurd y2 h
        · exact ⟨h', by omega, y2, y3⟩
    · have h := hb1.mp h
      conv => whnf
      refine ⟨⟨i_in 64 ea (by omega) (by decide), i_in 3 (k := 2) rfl (by omega) (by decide), i_in 13 e8 (by omega) (by decide), by rw [qa]; exact hP1.2.2.2.2.1 n hn⟩, fun x hxx => ?_⟩
      have hxx : mTgt w n 2 (nI i) x := by
        have := (mTgt_congr s1 s2 _ _ _ _).mp hxx
        rw [qa, e8] at this
        exact this
      conv => whnf
      have er1 : w1.1 49 (qn a) = nI r := by rw [qa, h01.1.2 49 (by simp)]; exact er
      refine ⟨⟨⟨i_in 64 ea (by omega) (by decide), i_in 13 ef hfn (by decide), i_in 64 er1 hr (by decide), by rw [er1, qn_nI (by omega), qa]; exact hrn, h01.2.2.2.1 hSI, hP.2.2.2.2.2 n 2 i x hn (by omega) (by omega) hxx⟩, mGo_W h01 hf⟩, fun w2 h2 => ?_⟩
      conv => whnf
      refine qq_wk S (ih (i + 1) (by omega) _ w2 (i_s e8) (mGo_tr h1 h2 (fun j e => ?_) (fun j e => ?_))) ⟨rfl, rfl, rfl, rfl, rfl, rfl, rfl, rfl, rfl, trivial⟩
      · rw [er1, qn_nI (by omega), qa, qf, mF_iff hxx]
        constructor
        · rintro ⟨h', d', y1, y2, y3, y4, y5, y6⟩
          by_cases q : h' = i
          · subst q; exact Or.inr ⟨d', y2, y4, y5, (hrow d' fn y2).mpr y6⟩
          · exact Or.inl ⟨h', d', by omega, y2, y3, y4, y5, y6⟩
        · rintro (⟨h', d', y1, y2⟩ | ⟨d', y2, y4, y5, y6⟩)
          · exact ⟨h', d', by omega, y2⟩
          · exact ⟨i, d', by omega, y2, h, y4, y5, (hrow d' fn y2).mp y6⟩
      · rw [qa, qf, mF_iff hxx]
        constructor
        · rintro ⟨h', y1, y2, y3, y4⟩
          by_cases q : h' = i
          · subst q; exact Or.inr ⟨y3, y4⟩
          · exact Or.inl ⟨h', by omega, y2, y3, y4⟩
        · rintro (⟨h', y1, y2⟩ | ⟨y3, y4⟩)
          · exact ⟨h', by omega, y2⟩
          · exact ⟨i, by omega, h, y3, y4⟩
theorem gi_38 {P : Option Value → qq_w → Prop} {K : Nat → qq_L → List Value → qq_w → Prop} (S : qq_Sat ww_sh ww_ro cs_X8_goesIn (qq_at 139 kd_X8_goesIn) none P K) {w : qq_w} {d a f x4 x5 : Int32} {N n dn fn p r l : Nat} (hP : mPW w N) (hSI : mSI w) (hf : ∃ f, mW w f) (hn : n < N) (ed : d = nI dn) (hd : dn < 13) (ea : a = nI n) (ef : f = nI fn) (hfn : fn < 13) (h9 : w.1 43 n = 9) (ep : w.1 47 n = nI p) (hp : p < 8) (er : w.1 49 n = nI r) (hr : r < N) (el : w.1 39 p = nI l) (elv : w.1 40 p = nI (l + 1)) (hl : l + 1 < N) (hrn : r ≠ n) (hrl : r ≠ l + 1) (hln : l ≠ n) (e4 : x4 = nI p) (h5 : mTgt w n 1 (nI fn) x5)
    (hq : ∀ w', mGo w w' (mInN w n dn fn 13) (mInM w n fn 13) → P none w') :
    ∀ m i, i + m = 13 → ∀ (x6 : Int32) (w1 : qq_w), x6 = nI i → mGo w w1 (mInN w n dn fn i) (mInM w n fn i) → K 38 [(0, .ref 8), (1, .int d), (2, .int a), (3, .int f), (4, .int x4), (5, .int x5), (6, .int x6)] [] w1 := by
  have hN := hP.2.1
  have qa : qn a = n := by rw [ea]; exact qn_nI (by omega)
  have z1 : qn (w.1 49 n) = r := by rw [er]; exact qn_nI (by omega)
  have z2 : qn (w.1 47 n) = p := by rw [ep]; exact qn_nI (by omega)
  have z3 : qn (w.1 39 (qn (w.1 47 n))) = l := by rw [z2, el]; exact qn_nI (by omega)
  have z4 : qn (w.1 40 (qn (w.1 47 n))) = l + 1 := by rw [z2, elv]; exact qn_nI (by omega)
  intro m
  induction m with
  | zero =>
    intro i hi x6 w1 e6 h1
    have : i = 13 := by omega
    subst this
    refine qq_go_ok S (fun pc => Nat.beq pc 38) 60 ?_
    conv => whnf
    refine br_t (i_ge 13 e6 (by omega) (by omega)) ?_
    conv => whnf
    exact hq _ h1
  | succ m ih =>
    intro i hi x6 w1 e6 h1
    have hrowc : ∀ d' g, d' < 13 → (bt (w1.1 56 (13 * n + d')) g = true ↔ bt (w.1 56 (13 * n + d')) g = true) := by
      intro d' g hd'
      rw [h1.2.2.2.2.1]
      constructor
      · rintro (z | ⟨y, -⟩ | ⟨g', yi, -, ⟨y, y2⟩ | ⟨h', d2, y1, y2, y3, y4, -⟩⟩)
        · exact z
        · rw [z1] at y; omega
        · rw [z3] at y; omega
        · rw [z1] at y4; omega
      · exact Or.inl
    have hrowl : ∀ d' g, d' < 13 → (bt (w1.1 56 (13 * (l + 1) + d')) g = true ↔ bt (w.1 56 (13 * (l + 1) + d')) g = true) := by
      intro d' g hd'
      rw [h1.2.2.2.2.1]
      constructor
      · rintro (z | ⟨y, -⟩ | ⟨g', yi, -, ⟨y, y2⟩ | ⟨h', d2, y1, y2, y3, y4, -⟩⟩)
        · exact z
        · rw [z1] at y; omega
        · rw [z3] at y; omega
        · rw [z1] at y4; omega
      · exact Or.inl
    have inc : ∀ w2 : qq_w, mGo w w2 (mInN w n dn fn (i + 1)) (mInM w n fn (i + 1)) → K 132 [(0, .ref 8), (1, .int d), (2, .int a), (3, .int f), (4, .int x4), (5, .int x5), (6, .int x6)] [] w2 := by
      intro w2 h2
      refine qq_go_ok S (fun pc => Nat.beq pc 38) 60 ?_
      conv => whnf
      exact qq_wk S (ih (i + 1) (by omega) _ w2 (i_s e6) h2) ⟨rfl, rfl, rfl, rfl, rfl, rfl, rfl, trivial⟩
    refine qq_go_ok S (fun pc => Nat.beq pc 94 || Nat.beq pc 132) 80 ?_
    conv => whnf
    refine br_f (i_nge 13 e6 (by omega) (by omega)) ?_
    conv => whnf
    have hb1 : (x5 >>> (x6 &&& 31)) &&& 1 = 1 ↔ mF w n 1 fn i := by rw [e6, ← mF_iff h5]; exact b_has1 (by omega) _
    refine ⟨fun h => ?_, fun h => ?_⟩
    · have h : ¬ mF w n 1 fn i := fun z => h (hb1.mpr z)
      conv => whnf
      refine qq_wk S (inc w1 (mGo_iff h1 (fun j e => ⟨?_, ?_⟩) (fun j e => ⟨?_, ?_⟩))) ⟨rfl, rfl, rfl, rfl, rfl, rfl, rfl, trivial⟩
      · rintro (y | ⟨g, y1, y2⟩)
        · exact Or.inl y
        · exact Or.inr ⟨g, by omega, y2⟩
      · rintro (y | ⟨g, y1, y2, y3⟩)
        · exact Or.inl y
        · by_cases q : g = i
          · subst q; exact absurd y2 h
          · exact Or.inr ⟨g, by omega, y2, y3⟩
      · rintro ⟨g, h', y1, y2⟩; exact ⟨g, h', by omega, y2⟩
      · rintro ⟨g, h', y1, y2, y3, y4⟩
        by_cases q : g = i
        · subst q; exact absurd y3 h
        · exact ⟨g, h', by omega, y2, y3, y4⟩
    · have h := hb1.mp h
      conv => whnf
      refine ⟨i_in 8 e4 hp (by decide), ?_⟩
      conv => whnf
      have el1 : w1.1 39 x4.toNatClampNeg = nI l := by rw [h1.1.2 39 (by simp), i_c e4 (by omega)]; exact el
      refine ⟨⟨⟨i_in 64 el1 (by omega) (by decide), i_in 13 e6 (by omega) (by decide), i_in 13 e6 (by omega) (by decide)⟩, mGo_W h1 hf⟩, fun w2 h2 => ?_⟩
      have h2g := mGo_of h2
      have h02 := mGo_tr h1 h2g (fun j e => Iff.rfl) (fun j e => Iff.rfl)
      have q6 : qn x6 = i := by rw [e6]; exact qn_nI (by omega)
      have ql : qn ((8, w1.1 39).2 x4.toNatClampNeg) = l := by
        show qn (w1.1 39 x4.toNatClampNeg) = l
        rw [el1]; exact qn_nI (by omega)
      conv => whnf
      refine ⟨i_in 8 e4 hp (by decide), ?_⟩
      conv => whnf
      have elv1 : w2.1 40 x4.toNatClampNeg = nI (l + 1) := by rw [h02.1.2 40 (by simp), i_c e4 (by omega)]; exact elv
      have elr := nI_mr elv1 e6 (nI_lit 13)
      refine ⟨i_in 832 elr (by omega) (by decide), ?_⟩
      conv => whnf
      have c56 : w2.1 56 ((13 : Int32) * w2.1 40 x4.toNatClampNeg + x6).toNatClampNeg = w2.1 56 (13 * (l + 1) + i) := by rw [i_c elr (by omega)]
      have hrow2 : ∀ d' g, d' < 13 → (bt (w2.1 56 (13 * n + d')) g = true ↔ bt (w.1 56 (13 * n + d')) g = true) := by
        intro d' g hd'
        rw [h2.2, ql, q6, ← hrowc d' g hd']
        constructor
        · rintro (z | ⟨z, -⟩)
          · exact z
          · omega
        · exact Or.inl
      have hx7 : ∀ g, bt (w2.1 56 (13 * (l + 1) + i)) g = true ↔ bt (w.1 56 (13 * (l + 1) + i)) g = true := by
        intro g
        rw [h2.2, ql, q6, ← hrowl i g (by omega)]
        constructor
        · rintro (z | ⟨z, -⟩)
          · exact z
          · omega
        · exact Or.inl
      refine qq_wk S (gi_94 S (w := w) (w0 := w2) (d := d) (x4 := x4) (x5 := x5) (x6 := x6) (x7 := w2.1 56 (13 * (l + 1) + i)) hP hSI hf hn ea ef hfn er (by omega) hrn h02 hrow2 (fun w3 h3 => inc w3 (mGo_tr h02 h3 (fun j e => ⟨?_, ?_⟩) (fun j e => ⟨?_, ?_⟩))) 13 0 rfl _ w2 rfl (mGo_rf (fun j e => ?_) (fun j e => ?_))) ⟨rfl, rfl, rfl, rfl, rfl, rfl, rfl, ?_, rfl, trivial⟩
      · rw [ql, q6]
        rintro (y | ⟨g, y1, y2, y3⟩)
        · exact Or.inl (Or.inl (Or.inl y))
        · by_cases q : g = i
          · subst q
            rw [z3, z4, z1] at y3
            rcases y3 with y3 | ⟨h', d', b1, b2, b3, b4⟩
            · exact Or.inl (Or.inr y3)
            · exact Or.inr ⟨h', d', b1, b2, (hx7 h').mpr b3, b4⟩
          · exact Or.inl (Or.inl (Or.inr ⟨g, by omega, y2, y3⟩))
      · rw [ql, q6]
        rintro (((y | ⟨g, y1, y2⟩) | y) | ⟨h', d', b1, b2, b3, b4⟩)
        · exact Or.inl y
        · exact Or.inr ⟨g, by omega, y2⟩
        · refine Or.inr ⟨i, by omega, h, Or.inl ?_⟩
          rw [z3]
          exact y
        · refine Or.inr ⟨i, by omega, h, Or.inr ⟨h', d', b1, b2, ?_, ?_⟩⟩
          · rw [z4]
            exact (hx7 h').mp b3
          · rw [z1]
            exact b4
      · rintro ⟨g, h', y1, y2, y3, y4, y5⟩
        by_cases q : g = i
        · subst q
          rw [z4] at y4
          exact Or.inr ⟨h', y2, (hx7 h').mpr y4, y5⟩
        · exact Or.inl (Or.inl ⟨g, h', by omega, y2, y3, y4, y5⟩)
      · rintro ((⟨g, h', y1, y2⟩ | y) | ⟨h', y2, y4, y5⟩)
        · exact ⟨g, h', by omega, y2⟩
        · exact y.elim
        · refine ⟨i, h', by omega, y2, h, ?_, y5⟩
          rw [z4]
          exact (hx7 h').mp y4
      · rintro ⟨h', d', z, -⟩; omega
      · rintro ⟨h', z, -⟩; omega
      · show some (Value.int (w2.1 56 ((13 : Int32) * w2.1 40 x4.toNatClampNeg + x6).toNatClampNeg)) = _
        rw [c56]
set_option maxHeartbeats 4000000 in
set_option maxRecDepth 100000 in
theorem bd_X8_goesIn : ∀ As w P K, qq_Sat ww_sh ww_ro cs_X8_goesIn (qq_at 139 kd_X8_goesIn) none P K → T_X8_goesIn As w P → K 0 (lv_args 0 As) [] w := by
  intro As w P K S h
  unfold T_X8_goesIn at h
  split at h
  · rename_i d a f
    obtain ⟨⟨⟨hp, hp2, hp3, hP, hSI, hn, h9⟩, hf⟩, hq⟩ := h
    obtain ⟨ed, hd⟩ := qn_eq hp (by decide)
    obtain ⟨ea, ha⟩ := qn_eq hp2 (by decide)
    obtain ⟨ef, hfn⟩ := qn_eq hp3 (by decide)
    obtain ⟨p, r, l, q1, q2, q3, q4, q5, q6, q7, q8, q9, q10⟩ := hP.2.2.1 _ hn h9
    have hN := hP.2.1
    refine qq_go_ok S (fun pc => Nat.beq pc 38) 60 ?_
    conv => whnf
    refine ⟨hp2, ?_⟩
    conv => whnf
    refine ⟨⟨hp2, i_in 3 (k := 0) rfl (by omega) (by decide), hp3, hP.2.2.2.2.1 _ hn⟩, fun x hx => ?_⟩
    have hx : mTgt w (qn a) 0 (nI (qn f)) x := by rw [← ef]; exact hx
    conv => whnf
    have er : w.1 49 a.toNatClampNeg = nI r := q5
    refine ⟨⟨⟨i_in 64 er (by omega) (by decide), hp⟩, hf⟩, fun w1 h1 => ?_⟩
    have h1g := mGo_of h1
    obtain ⟨s1, s2⟩ := mGo_same h1g
    have hP1 := mPW_go h1g hP
    conv => whnf
    refine ⟨hp2, ?_⟩
    conv => whnf
    refine ⟨⟨hp2, i_in 3 (k := 1) rfl (by omega) (by decide), hp3, hP1.2.2.2.2.1 _ hn⟩, fun y hy => ?_⟩
    have hy : mTgt w (qn a) 1 (nI (qn f)) y := by
      have := (mTgt_congr s1 s2 _ _ _ _).mp hy
      rw [← ef]
      exact this
    conv => whnf
    have e47 : w1.1 47 a.toNatClampNeg = nI p := by rw [h1g.1.2 47 (by simp)]; exact q4
    have hrn : r ≠ qn a := by
      intro z
      rw [z, h9] at q8
      exact absurd q8 (by decide)
    have hrl : r ≠ l + 1 := by
      intro z
      rw [z, q10] at q8
      exact absurd q8 (by decide)
    have hln : l ≠ qn a := by
      intro z
      rw [z, h9] at q9
      exact absurd q9 (by decide)
    have qr : qn ((64, w.1 49).2 a.toNatClampNeg) = qn (w.1 49 (qn a)) := rfl
    refine qq_wk S (gi_38 S (x4 := nI p) hP hSI hf hn ed hd ea ef hfn h9 q4 q1 q5 q2 q6 q7 q3 hrn hrl hln rfl hy hq 13 0 rfl _ w1 rfl (mGo_iff h1g (fun j e => ?_) (fun j e => ?_))) ⟨rfl, rfl, rfl, rfl, ?_, rfl, rfl, trivial⟩
    · rw [qr, mF_iff hx]
      constructor
      · rintro ⟨z1, z2, z3⟩; exact Or.inl ⟨z1, z3⟩
      · rintro (⟨z1, z2⟩ | ⟨g, z, -⟩)
        · obtain ⟨x', hx', hb⟩ := z2
          exact ⟨z1, fs_lt (hP.2.2.2.2.2 _ 0 _ x' hn (by omega) hfn hx') hb, ⟨x', hx', hb⟩⟩
        · omega
    · constructor
      · exact False.elim
      · rintro ⟨g, h', z, -⟩; omega
    · show some (Value.int (w1.1 47 a.toNatClampNeg)) = _
      rw [e47]
  · exact h.elim
theorem ha_X8_goesIn : ∀ As w P, T_X8_goesIn As w P → qq_wd As ≤ 9 := by
  intro As w P h
  unfold T_X8_goesIn at h
  split at h
  · exact Nat.le_of_ble_eq_true rfl
  · exact h.elim
theorem hv_X8_goesIn : ∀ As w P, T_X8_goesIn As w P → ∃ (k : Nat) (r : List Value) (fs : List Nat), As = .ref k :: r ∧ ww_sh[k]? = some (.inr (8, fs)) := by
  intro As w P h
  unfold T_X8_goesIn at h
  split at h
  · exact ⟨_, _, _, rfl, rfl⟩
  · exact h.elim
set_option maxRecDepth 100000 in
theorem M_X8_goesIn (l : Launch) : qq_M l ww_T ww_N vwCl ww_sh ww_ro ww_zs yX8_goesIn cX8_goesIn 9 none (ww_rm 3) T_X8_goesIn := by
  refine qq_mk (host := RX7) (is := ki_X8_goesIn) (cs := cs_X8_goesIn) (by decide) ww_k1 wl_X8 ww_so ww_so2 kc_X8_goesIn kv_X8_goesIn kg_X8_goesIn ?_ ha_X8_goesIn bd_X8_goesIn
  intro k i q hi hq
  match k, hi, hq with
  | 0, hi, hq => cases hi; cases hq; exact fun p e s m args below meth c D tys tC ad Q pc X hdg => qq_cV (ci := 8) X ww_gd (M_X8_flows l) kf_X8_flows.1 (Or.inl (ww_a5 (i := 187) (w := Cond.methodLink RX8 184 yX8_flows) rfl rfl)) kf_X8_flows.2.1 kf_X8_flows.2.2.1 kf_X8_flows.2.2.2 ⟨by decide, by decide, by decide +kernel⟩ rfl rfl rfl ⟨by decide, by decide⟩ ⟨Nat.le_refl _, Nat.le_refl _⟩ hv_X8_flows hdg
  | 1, hi, hq => cases hi; cases hq; exact fun p e s m args below meth c D tys tC ad Q pc X hdg => qq_cV (ci := 8) X ww_gd (M_X8_reachAll l) kf_X8_reachAll.1 (Or.inl (ww_a6 (i := 10) (w := Cond.methodLink RX8 223 yX8_reachAll) rfl rfl)) kf_X8_reachAll.2.1 kf_X8_reachAll.2.2.1 kf_X8_reachAll.2.2.2 ⟨by decide, by decide, by decide +kernel⟩ rfl rfl rfl ⟨by decide, by decide⟩ ⟨Nat.le_refl _, Nat.le_refl _⟩ hv_X8_reachAll hdg
  | 2, hi, hq => cases hi; cases hq; exact fun p e s m args below meth c D tys tC ad Q pc X hdg => qq_cV (ci := 8) X ww_gd (M_X8_reaches l) kf_X8_reaches.1 (Or.inl (ww_a5 (i := 226) (w := Cond.methodLink RX8 194 yX8_reaches) rfl rfl)) kf_X8_reaches.2.1 kf_X8_reaches.2.2.1 kf_X8_reaches.2.2.2 ⟨by decide, by decide, by decide +kernel⟩ rfl rfl rfl ⟨by decide, by decide⟩ ⟨Nat.le_refl _, Nat.le_refl _⟩ hv_X8_reaches hdg
  | 3, hi, hq => cases hi; cases hq; exact fun p e s m args below meth c D tys tC ad Q pc X hdg => qq_cV (ci := 8) X ww_gd (M_X8_comesBack l) kf_X8_comesBack.1 (Or.inl (ww_a6 (i := 2) (w := Cond.methodLink RX8 217 yX8_comesBack) rfl rfl)) kf_X8_comesBack.2.1 kf_X8_comesBack.2.2.1 kf_X8_comesBack.2.2.2 ⟨by decide, by decide, by decide +kernel⟩ rfl rfl rfl ⟨by decide, by decide⟩ ⟨Nat.le_refl _, Nat.le_refl _⟩ hv_X8_comesBack hdg
  | n + 4, hi, hq => simp [cs_X8_goesIn] at hq
