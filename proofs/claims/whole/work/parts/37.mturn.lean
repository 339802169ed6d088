theorem mTgt_uniq {w : qq_w} {n p : Nat} {f x y : Int32} (hx : mTgt w n p f x) (hy : mTgt w n p f y) : x = y := by
  rcases hx with ⟨a1, a2⟩ | ⟨a1, a2, a3⟩ | ⟨a1, a2, a3⟩ <;> rcases hy with ⟨b1, b2⟩ | ⟨b1, b2, b3⟩ | ⟨b1, b2, b3⟩
  · rw [a2, b2]
  · exact absurd a1 b1
  · exact absurd a1 b1
  · exact absurd b1 a1
  · rw [a3, b3]
  · exact absurd b2 a2
  · exact absurd b1 a1
  · exact absurd a2 b2
  · rcases a3 with ⟨c1, c2⟩ | ⟨c1, c2⟩ | ⟨c1, c2⟩ <;> rcases b3 with ⟨d1, d2⟩ | ⟨d1, d2⟩ | ⟨d1, d2⟩
    · rw [c2, d2]
    · omega
    · omega
    · omega
    · refine b_ext fun i _ => ?_
      have := (c2 i).trans (d2 i).symm
      cases z1 : bt x i <;> cases z2 : bt y i <;> simp [z1, z2] at this ⊢
    · omega
    · omega
    · omega
    · rw [c2, d2]
/-- a fact goes to a fact, by the reference's flows -/
def mF (w : qq_w) (n p f g : Nat) : Prop := ∃ x, mTgt w n p (nI f) x ∧ bt x g = true
theorem mF_iff {w : qq_w} {n p f g : Nat} {x : Int32} (hx : mTgt w n p (nI f) x) : bt x g = true ↔ mF w n p f g := ⟨fun z => ⟨x, hx, z⟩, fun ⟨y, hy, z⟩ => by rw [mTgt_uniq hx hy]; exact z⟩
theorem mTgt_congr {w w1 : qq_w} (h : ∀ k, k ∈ [37, 38, 41, 43, 44, 45, 46, 47, 48, 50, 51, 54] → w1.1 k = w.1 k) (h8 : w1.1 8 23 = w.1 8 23) (n p : Nat) (f x : Int32) : mTgt w1 n p f x ↔ mTgt w n p f x := by
  have h37 := h 37 (by simp)
  have h38 := h 38 (by simp)
  have h41 := h 41 (by simp)
  have h43 := h 43 (by simp)
  have h44 := h 44 (by simp)
  have h45 := h 45 (by simp)
  have h46 := h 46 (by simp)
  have h47 := h 47 (by simp)
  have h48 := h 48 (by simp)
  have h50 := h 50 (by simp)
  have h51 := h 51 (by simp)
  have h54 := h 54 (by simp)
  unfold mTgt mStr mAcr mBk mInto
  rw [h37, h38, h41, h43, h44, h45, h46, h47, h48, h50, h51, h54, h8]
theorem mFN_congr {w w1 : qq_w} (h : ∀ k, k ∈ [37, 38, 41, 43, 44, 45, 46, 47, 48, 50, 51, 54] → w1.1 k = w.1 k) {n : Nat} (hn : mFN w n) : mFN w1 n := by
  have h37 := h 37 (by simp)
  have h38 := h 38 (by simp)
  have h43 := h 43 (by simp)
  have h47 := h 47 (by simp)
  have h50 := h 50 (by simp)
  unfold mFN at *
  rw [h37, h38, h43, h47, h50]
  exact hn
theorem mGo_same {w w1 : qq_w} {N M : Nat → Nat → Prop} (h : mGo w w1 N M) : (∀ k, k ∈ [37, 38, 41, 43, 44, 45, 46, 47, 48, 50, 51, 54] → w1.1 k = w.1 k) ∧ w1.1 8 23 = w.1 8 23 :=
  ⟨fun k hk => h.1.2 k (fun z => by simp at hk z; omega), h.2.1 23 (by decide) (by decide) (by decide)⟩
/-- the reference's program is well made, as far as turns ask -/
def mPW (w : qq_w) (N : Nat) : Prop := w.1 8 8 = nI N ∧ N ≤ 64 ∧ (∀ c, c < N → w.1 43 c = 9 → ∃ p r l, p < 8 ∧ r < N ∧ l + 1 < N ∧ w.1 47 c = nI p ∧ w.1 49 c = nI r ∧ w.1 39 p = nI l ∧ w.1 40 p = nI (l + 1) ∧ w.1 43 r = 10 ∧ w.1 43 l = 0 ∧ w.1 43 (l + 1) = 1) ∧ (∃ E, E ≤ 120 ∧ w.1 8 20 = nI E ∧ ∀ k, k < E → ∃ a b, a < N ∧ b < N ∧ w.1 52 k = nI a ∧ w.1 53 k = nI b) ∧ (∀ n, n < N → mFN w n) ∧ ∀ n p f x, n < N → p < 3 → f < 13 → mTgt w n p (nI f) x → fs x
theorem mPW_go {w w1 : qq_w} {N : Nat} {A B : Nat → Nat → Prop} (hg : mGo w w1 A B) (h : mPW w N) : mPW w1 N := by
  obtain ⟨s1, s2⟩ := mGo_same hg
  have o : ∀ q, q ∉ [8, 56, 57, 58] → w1.1 q = w.1 q := hg.1.2
  have o39 := o 39 (by simp)
  have o40 := o 40 (by simp)
  have o43 := o 43 (by simp)
  have o47 := o 47 (by simp)
  have o49 := o 49 (by simp)
  have o52 := o 52 (by simp)
  have o53 := o 53 (by simp)
  have p8 := hg.2.1 8 (by decide) (by decide) (by decide)
  have p20 := hg.2.1 20 (by decide) (by decide) (by decide)
  obtain ⟨a1, a2, a3, a4, a5, a6⟩ := h
  refine ⟨by rw [p8]; exact a1, a2, ?_, ?_, fun n hn => mFN_congr s1 (a5 n hn), fun n p f x hn hp hf hx => a6 n p f x hn hp hf ((mTgt_congr s1 s2 n p _ x).mp hx)⟩
  · rw [o39, o40, o43, o47, o49]; exact a3
  · rw [p20, o52, o53]; exact a4
abbrev cs_X8_goesBack : List (Nat × qq_t) := [(3, T_X8_holdsAt), (4, T_X8_flows), (4, T_X8_comesBack)]
def mBkN (w : qq_w) (o : Int32) (d f N j e : Nat) : Prop := ∃ c g d', c < N ∧ w.1 43 c = 9 ∧ w.1 47 c = o ∧ g < 13 ∧ mF w c 1 g d ∧ d' < 13 ∧ j = 13 * qn (w.1 49 c) + d' ∧ mF w c 2 f e ∧ bt (w.1 56 (13 * c + d')) g = true
def mBkM (w : qq_w) (o : Int32) (d f N j e : Nat) : Prop := ∃ c g, c < N ∧ w.1 43 c = 9 ∧ w.1 47 c = o ∧ g < 13 ∧ mHolds w c g ∧ mF w c 1 g d ∧ j = 13 * c + g ∧ mF w c 2 f e
def T_X8_goesBack : qq_t := fun As w P => match As with
  | [.ref 8, .int d, .int a, .int f] => ((vp_in d 13 ∧ vp_in a 64 ∧ vp_in f 13 ∧ mPW w (qn (w.1 8 8)) ∧ mSI w) ∧ ∃ f, mW w f) ∧ ∀ w', mGo w w' (mBkN w (w.1 42 (qn a)) (qn d) (qn f) (qn (w.1 8 8))) (mBkM w (w.1 42 (qn a)) (qn d) (qn f) (qn (w.1 8 8))) → P none w'
  | _ => False
theorem gb_43 {P : Option Value → qq_w → Prop} {K : Nat → qq_L → List Value → qq_w → Prop} (S : qq_Sat ww_sh ww_ro cs_X8_goesBack (qq_at 107 kd_X8_goesBack) none P K) {w w0 : qq_w} {d a f x4 : Int32} {N n dn fn : Nat} (hP : mPW w N) (hSI : mSI w) (hf : ∃ f, mW w f) (hn : n < N) (ed : d = nI dn) (hd : dn < 13) (ef : f = nI fn) (hfn : fn < 13) (e4 : x4 = nI n) (h9 : w.1 43 n = 9) {N0 M0 : Nat → Nat → Prop} (h0 : mGo w w0 N0 M0) (hrow0 : ∀ d' g, d' < 13 → (bt (w0.1 56 (13 * n + d')) g = true ↔ bt (w.1 56 (13 * n + d')) g = true))
    (hk : ∀ w1 : qq_w, mGo w0 w1 (fun j e => ∃ g d', g < 13 ∧ mF w n 1 g dn ∧ d' < 13 ∧ j = 13 * qn (w.1 49 n) + d' ∧ mF w n 2 fn e ∧ bt (w.1 56 (13 * n + d')) g = true) (fun j e => ∃ g, g < 13 ∧ mHolds w n g ∧ mF w n 1 g dn ∧ j = 13 * n + g ∧ mF w n 2 fn e) → K 100 [(0, .ref 8), (1, .int d), (2, .int a), (3, .int f), (4, .int x4)] [] w1) :
    ∀ m i, i + m = 13 → ∀ (x5 : Int32) (w1 : qq_w), x5 = nI i → mGo w0 w1 (fun j e => ∃ g d', g < i ∧ mF w n 1 g dn ∧ d' < 13 ∧ j = 13 * qn (w.1 49 n) + d' ∧ mF w n 2 fn e ∧ bt (w.1 56 (13 * n + d')) g = true) (fun j e => ∃ g, g < i ∧ mHolds w n g ∧ mF w n 1 g dn ∧ j = 13 * n + g ∧ mF w n 2 fn e) → K 43 [(0, .ref 8), (1, .int d), (2, .int a), (3, .int f), (4, .int x4), (5, .int x5)] [] w1 := by
  obtain ⟨p, r, l, q1, q2, q3, q4, q5, q6, q7, q8, q9, q10⟩ := hP.2.2.1 n hn h9
  have hN := hP.2.1
  have qr : qn (w.1 49 n) = r := by rw [q5]; exact qn_nI (by omega)
  have hrn : r ≠ n := by
    rintro rfl
    exact absurd (q8.symm.trans h9) (by decide)
  have q4n : qn x4 = n := by rw [e4]; exact qn_nI (by omega)
  intro m
  induction m with
  | zero =>
    intro i hi x5 w1 e5 h1
    have : i = 13 := by omega
    subst this
    refine qq_go_ok S (fun pc => Nat.beq pc 43 || Nat.beq pc 100) 60 ?_
    conv => whnf
    refine br_t (i_ge 13 e5 (by omega) (by omega)) ?_
    conv => whnf
    exact qq_wk S (hk w1 h1) ⟨rfl, rfl, rfl, rfl, rfl, trivial⟩
  | succ m ih =>
    intro i hi x5 w1 e5 h1
    have h01 := mGo_tr h0 h1 (fun j e => Iff.rfl) (fun j e => Iff.rfl)
    obtain ⟨s1, s2⟩ := mGo_same h01
    have hP1 := mPW_go h01 hP
    have hrow : ∀ d' g, d' < 13 → (bt (w1.1 56 (13 * n + d')) g = true ↔ bt (w.1 56 (13 * n + d')) g = true) := by
      intro d' g hd'
      rw [h1.2.2.2.2.1, ← hrow0 d' g hd']
      constructor
      · rintro (z | ⟨g', d2, -, -, z1, z2, -⟩)
        · exact z
        · rw [qr] at z2
          omega
      · exact Or.inl
    have q5i : qn x5 = i := by rw [e5]; exact qn_nI (by omega)
    have hh : mHolds w1 n i ↔ mHolds w n i := by
      unfold mHolds
      constructor
      · rintro ⟨d', z1, z2⟩; exact ⟨d', z1, (hrow d' i z1).mp z2⟩
      · rintro ⟨d', z1, z2⟩; exact ⟨d', z1, (hrow d' i z1).mpr z2⟩
    have skip : ¬ (mHolds w n i ∧ mF w n 1 i dn) → K 43 [(0, .ref 8), (1, .int d), (2, .int a), (3, .int f), (4, .int x4), (5, .int (x5 + 1))] [] w1 := fun z => ih (i + 1) (by omega) _ _ (i_s e5) (mGo_iff h1 (fun j e => ⟨by
        rintro ⟨g, d', y1, y2⟩; exact ⟨g, d', by omega, y2⟩, by
        rintro ⟨g, d', y1, y2, y3, y4, y5, y6⟩
        by_cases q : g = i
        · subst q; exact absurd ⟨⟨d', y3, y6⟩, y2⟩ z
        · exact ⟨g, d', by omega, y2, y3, y4, y5, y6⟩⟩) (fun j e => ⟨by
        rintro ⟨g, y1, y2⟩; exact ⟨g, by omega, y2⟩, by
        rintro ⟨g, y1, y2, y3, y4⟩
        by_cases q : g = i
        · subst q; exact absurd ⟨y2, y3⟩ z
        · exact ⟨g, by omega, y2, y3, y4⟩⟩))
    refine qq_go_ok S (fun pc => Nat.beq pc 43 || Nat.beq pc 100) 80 ?_
    conv => whnf
    refine br_f (i_nge 13 e5 (by omega) (by omega)) ?_
    conv => whnf
    refine ⟨⟨i_in 64 e4 (by omega) (by decide), i_in 13 e5 (by omega) (by decide)⟩, fun hy => ?_, fun hy => ?_⟩
    · rw [q4n, q5i, hh] at hy
      conv => whnf
      refine br_f (by decide) ?_
      conv => whnf
      refine ⟨⟨i_in 64 e4 (by omega) (by decide), i_in 3 (k := 1) rfl (by omega) (by decide), i_in 13 e5 (by omega) (by decide), by rw [q4n]; exact hP1.2.2.2.2.1 n hn⟩, fun y hyy => ?_⟩
      have hyy : mTgt w n 1 (nI i) y := by
        have := (mTgt_congr s1 s2 _ _ _ _).mp hyy
        rw [q4n, e5] at this
        exact this
      conv => whnf
      have hb1 : (y >>> (d &&& 31)) &&& 1 = 1 ↔ mF w n 1 i dn := by rw [ed, ← mF_iff hyy]; exact b_has1 (by omega) _
      refine ⟨fun h => ?_, fun h => ?_⟩
      · conv => whnf
        exact qq_wk S (skip fun z => h (hb1.mpr z.2)) ⟨rfl, rfl, rfl, rfl, rfl, rfl, trivial⟩
      have h := hb1.mp h
      conv => whnf
      refine ⟨⟨i_in 64 e4 (by omega) (by decide), i_in 3 (k := 2) rfl (by omega) (by decide), i_in 13 ef hfn (by decide), by rw [q4n]; exact hP1.2.2.2.2.1 n hn⟩, fun x hxx => ?_⟩
      have hxx : mTgt w n 2 (nI fn) x := by
        have := (mTgt_congr s1 s2 _ _ _ _).mp hxx
        rw [q4n, ef] at this
        exact this
      conv => whnf
      have er : w1.1 49 (qn x4) = nI r := by rw [q4n, h01.1.2 49 (by simp)]; exact q5
      refine ⟨⟨⟨i_in 64 e4 (by omega) (by decide), i_in 13 e5 (by omega) (by decide), i_in 64 er (by omega) (by decide), by rw [er, qn_nI (by omega), q4n]; exact hrn, h01.2.2.2.1 hSI, hP.2.2.2.2.2 n 2 fn x hn (by omega) hfn hxx⟩, mGo_W h01 hf⟩, fun w2 h2 => ?_⟩
      conv => whnf
      refine qq_wk S (ih (i + 1) (by omega) _ w2 (i_s e5) (mGo_tr h1 h2 (fun j e => ?_) (fun j e => ?_))) ⟨rfl, rfl, rfl, rfl, rfl, rfl, trivial⟩
      · rw [er, qn_nI (by omega), q4n, q5i, qr, mF_iff hxx]
        constructor
        · rintro ⟨g, d', y1, y2, y3, y4, y5, y6⟩
          by_cases q : g = i
          · subst q; exact Or.inr ⟨d', y3, y4, y5, (hrow d' g y3).mpr y6⟩
          · exact Or.inl ⟨g, d', by omega, y2, y3, y4, y5, y6⟩
        · rintro (⟨g, d', y1, y2⟩ | ⟨d', y3, y4, y5, y6⟩)
          · exact ⟨g, d', by omega, y2⟩
          · exact ⟨i, d', by omega, h, y3, y4, y5, (hrow d' i y3).mp y6⟩
      · rw [q4n, q5i, mF_iff hxx]
        constructor
        · rintro ⟨g, y1, y2, y3, y4, y5⟩
          by_cases q : g = i
          · subst q; exact Or.inr ⟨y4, y5⟩
          · exact Or.inl ⟨g, by omega, y2, y3, y4, y5⟩
        · rintro (⟨g, y1, y2⟩ | ⟨y4, y5⟩)
          · exact ⟨g, by omega, y2⟩
          · exact ⟨i, by omega, hy, h, y4, y5⟩
    · rw [q4n, q5i, hh] at hy
      conv => whnf
      refine br_t rfl ?_
      conv => whnf
      exact qq_wk S (skip fun z => hy z.1) ⟨rfl, rfl, rfl, rfl, rfl, rfl, trivial⟩
theorem gb_3 {P : Option Value → qq_w → Prop} {K : Nat → qq_L → List Value → qq_w → Prop} (S : qq_Sat ww_sh ww_ro cs_X8_goesBack (qq_at 107 kd_X8_goesBack) none P K) {w : qq_w} {d a f : Int32} {N dn fn an : Nat} (hP : mPW w N) (hSI : mSI w) (hf : ∃ f, mW w f) (ed : d = nI dn) (hd : dn < 13) (ef : f = nI fn) (hfn : fn < 13) (ea : a = nI an) (han : an < 64)
    (hq : ∀ w', mGo w w' (mBkN w (w.1 42 an) dn fn N) (mBkM w (w.1 42 an) dn fn N) → P none w') :
    ∀ m i, i + m = N → ∀ (x4 : Int32) (w1 : qq_w), x4 = nI i → mGo w w1 (mBkN w (w.1 42 an) dn fn i) (mBkM w (w.1 42 an) dn fn i) → K 3 [(0, .ref 8), (1, .int d), (2, .int a), (3, .int f), (4, .int x4)] [] w1 := by
  have hN := hP.2.1
  intro m
  induction m with
  | zero =>
    intro i hi x4 w1 e4 h1
    have : i = N := by omega
    subst this
    have eN1 : w1.1 8 8 = nI i := by rw [h1.2.1 8 (by decide) (by decide) (by decide)]; exact hP.1
    refine qq_go_ok S (fun pc => Nat.beq pc 3) 60 ?_
    conv => whnf
    refine br_t (i_ge' e4 eN1 (by omega) (by omega)) ?_
    conv => whnf
    exact hq _ h1
  | succ m ih =>
    intro i hi x4 w1 e4 h1
    have eN1 : w1.1 8 8 = nI N := by rw [h1.2.1 8 (by decide) (by decide) (by decide)]; exact hP.1
    have o43 : w1.1 43 x4.toNatClampNeg = w.1 43 i := by rw [h1.1.2 43 (by simp), i_c e4 (by omega)]
    have o47 : w1.1 47 x4.toNatClampNeg = w.1 47 i := by rw [h1.1.2 47 (by simp), i_c e4 (by omega)]
    have o42 : w1.1 42 a.toNatClampNeg = w.1 42 an := by rw [h1.1.2 42 (by simp), i_c ea (by omega)]
    have inc : ∀ w2 : qq_w, mGo w w2 (mBkN w (w.1 42 an) dn fn (i + 1)) (mBkM w (w.1 42 an) dn fn (i + 1)) → K 100 [(0, .ref 8), (1, .int d), (2, .int a), (3, .int f), (4, .int x4)] [] w2 := by
      intro w2 h2
      refine qq_go_ok S (fun pc => Nat.beq pc 3) 60 ?_
      conv => whnf
      exact qq_wk S (ih (i + 1) (by omega) _ w2 (i_s e4) h2) ⟨rfl, rfl, rfl, rfl, rfl, trivial⟩
    have skip : ¬ (w.1 43 i = 9 ∧ w.1 47 i = w.1 42 an) → K 100 [(0, .ref 8), (1, .int d), (2, .int a), (3, .int f), (4, .int x4)] [] w1 := fun z => inc w1 (mGo_iff h1 (fun j e => ⟨by
        rintro ⟨c, g, d', y1, y2⟩; exact ⟨c, g, d', by omega, y2⟩, by
        rintro ⟨c, g, d', y1, y2, y3, y4⟩
        by_cases q : c = i
        · subst q; exact absurd ⟨y2, y3⟩ z
        · exact ⟨c, g, d', by omega, y2, y3, y4⟩⟩) (fun j e => ⟨by
        rintro ⟨c, g, y1, y2⟩; exact ⟨c, g, by omega, y2⟩, by
        rintro ⟨c, g, y1, y2, y3, y4⟩
        by_cases q : c = i
        · subst q; exact absurd ⟨y2, y3⟩ z
        · exact ⟨c, g, by omega, y2, y3, y4⟩⟩))
    refine qq_go_ok S (fun pc => Nat.beq pc 43 || Nat.beq pc 100) 60 ?_
    conv => whnf
    refine br_f (i_lt' e4 eN1 (by omega) (by omega)) ?_
    conv => whnf
    refine ⟨i_in 64 e4 (by omega) (by decide), ?_⟩
    conv => whnf
    refine ⟨fun h => ?_, fun h => ?_⟩
    · have h : ¬ w1.1 43 x4.toNatClampNeg = 9 := h
      rw [o43] at h
      conv => whnf
      exact qq_wk S (skip fun z => h z.1) ⟨rfl, rfl, rfl, rfl, rfl, trivial⟩
    have h : w1.1 43 x4.toNatClampNeg = 9 := h
    rw [o43] at h
    conv => whnf
    refine ⟨i_in 64 e4 (by omega) (by decide), ?_⟩
    conv => whnf
    refine ⟨i_in 64 ea han (by decide), ?_⟩
    conv => whnf
    refine ⟨fun h2 => ?_, fun h2 => ?_⟩
    · have h2 : ¬ w1.1 47 x4.toNatClampNeg = w1.1 42 a.toNatClampNeg := h2
      rw [o47, o42] at h2
      conv => whnf
      exact qq_wk S (skip fun z => h2 z.2) ⟨rfl, rfl, rfl, rfl, rfl, trivial⟩
    have h2 : w1.1 47 x4.toNatClampNeg = w1.1 42 a.toNatClampNeg := h2
    rw [o47, o42] at h2
    conv => whnf
    have hrow0 : ∀ d' g, d' < 13 → (bt (w1.1 56 (13 * i + d')) g = true ↔ bt (w.1 56 (13 * i + d')) g = true) := by
      intro d' g hd'
      rw [h1.2.2.2.2.1]
      constructor
      · rintro (z | ⟨c, g', d2, y1, y2, y3, y4, y5, y6, y7, -⟩)
        · exact z
        · exfalso
          obtain ⟨p, r, l, q1, q2, q3, q4, q5, q6, q7, q8, -⟩ := hP.2.2.1 c (by omega) y2
          rw [q5, qn_nI (by omega)] at y7
          have : r = i := by omega
          subst this
          exact absurd (q8.symm.trans h) (by decide)
      · exact Or.inl
    refine qq_wk S (gb_43 S (w := w) (w0 := w1) hP hSI hf (by omega) ed hd ef hfn e4 h h1 hrow0 (fun w2 h3 => inc w2 (mGo_tr h1 h3 (fun j e => ⟨?_, ?_⟩) (fun j e => ⟨?_, ?_⟩))) 13 0 rfl _ w1 rfl (mGo_rf (fun j e => ?_) (fun j e => ?_))) ⟨rfl, rfl, rfl, rfl, rfl, rfl, trivial⟩
    · rintro ⟨c, g, d', y1, y2, y3, y4, y5, y6, y7, y8, y9⟩
      by_cases q : c = i
      · subst q; exact Or.inr ⟨g, d', y4, y5, y6, y7, y8, y9⟩
      · exact Or.inl ⟨c, g, d', by omega, y2, y3, y4, y5, y6, y7, y8, y9⟩
    · rintro (⟨c, g, d', y1, y2⟩ | ⟨g, d', y4, y5, y6, y7, y8, y9⟩)
      · exact ⟨c, g, d', by omega, y2⟩
      · exact ⟨i, g, d', by omega, h, h2, y4, y5, y6, y7, y8, y9⟩
    · rintro ⟨c, g, y1, y2, y3, y4, y5, y6, y7, y8⟩
      by_cases q : c = i
      · subst q; exact Or.inr ⟨g, y4, y5, y6, y7, y8⟩
      · exact Or.inl ⟨c, g, by omega, y2, y3, y4, y5, y6, y7, y8⟩
    · rintro (⟨c, g, y1, y2⟩ | ⟨g, y4, y5, y6, y7, y8⟩)
      · exact ⟨c, g, by omega, y2⟩
      · exact ⟨i, g, by omega, h, h2, y4, y5, y6, y7, y8⟩
    · rintro ⟨g, d', z, -⟩; omega
    · rintro ⟨g, z, -⟩; omega
set_option maxHeartbeats 4000000 in
set_option maxRecDepth 100000 in
theorem bd_X8_goesBack : ∀ As w P K, qq_Sat ww_sh ww_ro cs_X8_goesBack (qq_at 107 kd_X8_goesBack) none P K → T_X8_goesBack As w P → K 0 (lv_args 0 As) [] w := by
  intro As w P K S h
  unfold T_X8_goesBack at h
  split at h
  · rename_i d a f
    obtain ⟨⟨⟨hp, hp2, hp3, hP, hSI⟩, hf⟩, hq⟩ := h
    obtain ⟨ed, hd⟩ := qn_eq hp (by decide)
    obtain ⟨ea, ha⟩ := qn_eq hp2 (by decide)
    obtain ⟨ef, hfn⟩ := qn_eq hp3 (by decide)
    refine qq_go_ok S (fun pc => Nat.beq pc 3) 60 ?_
    conv => whnf
    refine qq_wk S (gb_3 S hP hSI hf ed hd ef hfn ea ha hq _ 0 (Nat.zero_add _) _ w rfl (mGo_rf (fun j e => ?_) (fun j e => ?_))) ⟨rfl, rfl, rfl, rfl, rfl, trivial⟩
    · rintro ⟨c, g, d', z, -⟩; omega
    · rintro ⟨c, g, z, -⟩; omega
  · exact h.elim
theorem ha_X8_goesBack : ∀ As w P, T_X8_goesBack As w P → qq_wd As ≤ 6 := by
  intro As w P h
  unfold T_X8_goesBack at h
  split at h
  · exact Nat.le_of_ble_eq_true rfl
  · exact h.elim
theorem hv_X8_goesBack : ∀ As w P, T_X8_goesBack As w P → ∃ (k : Nat) (r : List Value) (fs : List Nat), As = .ref k :: r ∧ ww_sh[k]? = some (.inr (8, fs)) := by
  intro As w P h
  unfold T_X8_goesBack at h
  split at h
  · exact ⟨_, _, _, rfl, rfl⟩
  · exact h.elim
set_option maxRecDepth 100000 in
theorem M_X8_goesBack (l : Launch) : qq_M l ww_T ww_N vwCl ww_sh ww_ro ww_zs yX8_goesBack cX8_goesBack 6 none (ww_rm 3) T_X8_goesBack := by
  refine qq_mk (host := RX7) (is := ki_X8_goesBack) (cs := cs_X8_goesBack) (by decide) ww_k1 wl_X8 ww_so ww_so2 kc_X8_goesBack kv_X8_goesBack kg_X8_goesBack ?_ ha_X8_goesBack bd_X8_goesBack
  intro k i q hi hq
  match k, hi, hq with
  | 0, hi, hq => cases hi; cases hq; exact fun p e s m args below meth c D tys tC ad Q pc X hdg => qq_cV (ci := 8) X ww_gd (M_X8_holdsAt l) kf_X8_holdsAt.1 (Or.inl (ww_a5 (i := 238) (w := Cond.methodLink RX8 214 yX8_holdsAt) rfl rfl)) kf_X8_holdsAt.2.1 kf_X8_holdsAt.2.2.1 kf_X8_holdsAt.2.2.2 ⟨by decide, by decide, by decide +kernel⟩ rfl rfl rfl ⟨by decide, by decide⟩ ⟨Nat.le_refl _, Nat.le_refl _⟩ hv_X8_holdsAt hdg
  | 1, hi, hq => cases hi; cases hq; exact fun p e s m args below meth c D tys tC ad Q pc X hdg => qq_cV (ci := 8) X ww_gd (M_X8_flows l) kf_X8_flows.1 (Or.inl (ww_a5 (i := 187) (w := Cond.methodLink RX8 184 yX8_flows) rfl rfl)) kf_X8_flows.2.1 kf_X8_flows.2.2.1 kf_X8_flows.2.2.2 ⟨by decide, by decide, by decide +kernel⟩ rfl rfl rfl ⟨by decide, by decide⟩ ⟨Nat.le_refl _, Nat.le_refl _⟩ hv_X8_flows hdg
  | 2, hi, hq => cases hi; cases hq; exact fun p e s m args below meth c D tys tC ad Q pc X hdg => qq_cV (ci := 8) X ww_gd (M_X8_comesBack l) kf_X8_comesBack.1 (Or.inl (ww_a6 (i := 2) (w := Cond.methodLink RX8 217 yX8_comesBack) rfl rfl)) kf_X8_comesBack.2.1 kf_X8_comesBack.2.2.1 kf_X8_comesBack.2.2.2 ⟨by decide, by decide, by decide +kernel⟩ rfl rfl rfl ⟨by decide, by decide⟩ ⟨Nat.le_refl _, Nat.le_refl _⟩ hv_X8_comesBack hdg
  | n + 3, hi, hq => simp [cs_X8_goesBack] at hq
