/-- lengths of valid paths, by derivations: a beginning, a level path behind an ENTER, a step into a procedure -/
def WDer (Bg : Nat → Nat → Prop) (Lv : Nat → Nat → Nat → Nat → Prop) (Pr : Nat → Nat → Prop) (Go : Nat → Nat → Nat → Nat → Prop) (n f L : Nat) : Prop := ∀ Q : Nat → Nat → Nat → Prop, (∀ n f, n < 64 → Bg n f → Q n f 0) → (∀ n m d f a b, n < 64 → m < 64 → Pr n m → Q m d a → Lv n d f b → Q n f (lcap (a + b))) → (∀ c f m g a, c < 64 → m < 64 → Q c f a → Go c f m g → Q m g (lcap (a + 1))) → Q n f L
theorem WDer.bg {Bg : Nat → Nat → Prop} {Lv : Nat → Nat → Nat → Nat → Prop} {Pr : Nat → Nat → Prop} {Go : Nat → Nat → Nat → Nat → Prop} {n f : Nat} (h : Bg n f) (hn : n < 64 := by omega) : WDer Bg Lv Pr Go n f 0 := fun _ q1 _ _ => q1 n f hn h
theorem WDer.lv {Bg : Nat → Nat → Prop} {Lv : Nat → Nat → Nat → Nat → Prop} {Pr : Nat → Nat → Prop} {Go : Nat → Nat → Nat → Nat → Prop} {n m d f a b : Nat} (h1 : Pr n m) (h2 : WDer Bg Lv Pr Go m d a) (h3 : Lv n d f b) (hn : n < 64 := by omega) (hm : m < 64 := by omega) : WDer Bg Lv Pr Go n f (lcap (a + b)) := fun Q q1 q2 q3 => q2 _ _ _ _ _ _ hn hm h1 (h2 Q q1 q2 q3) h3
theorem WDer.go {Bg : Nat → Nat → Prop} {Lv : Nat → Nat → Nat → Nat → Prop} {Pr : Nat → Nat → Prop} {Go : Nat → Nat → Nat → Nat → Prop} {c f m g a : Nat} (h1 : WDer Bg Lv Pr Go c f a) (h2 : Go c f m g) (hc : c < 64 := by omega) (hm : m < 64 := by omega) : WDer Bg Lv Pr Go m g (lcap (a + 1)) := fun Q q1 q2 q3 => q3 _ _ _ _ _ hc hm (h1 Q q1 q2 q3) h2
def mBg (w : qq_w) (n f : Nat) : Prop := f < 13 ∧ w.1 39 0 = nI n ∧ bt (mBegin w) f = true
def mLvK (w : qq_w) (N n d f b : Nat) : Prop := n < N ∧ d < 13 ∧ f < 13 ∧ w.2 59 (169 * n + 13 * d + f) = lN b ∧ b ≤ 1000000000000
def mPr (w : qq_w) (n m : Nat) : Prop := w.1 39 (qn (w.1 42 n)) = nI m
def mGoI (w : qq_w) (c f m g : Nat) : Prop := w.1 43 c = 9 ∧ w.1 39 (qn (w.1 47 c)) = nI m ∧ mF w c 1 f g
abbrev mWD (w : qq_w) (N : Nat) : Nat → Nat → Nat → Prop := WDer (mBg w) (mLvK w N) (mPr w) (mGoI w)
def mWDc (w : qq_w) (N c L : Nat) : Prop := ∃ n f, f < 13 ∧ c = 13 * n + f ∧ mWD w N n f L
def wSnd (w : qq_w) (D : Nat → Nat → Prop) : Prop := ∀ c L, c < 832 → w.2 60 c = lN L → L ≤ 1000000000000 → D c L
def mWClF (w : qq_w) (n d f : Nat) : Prop := ∀ m a b, m < 64 → mPr w n m → w.2 60 (13 * m + d) = lN a → a ≤ 1000000000000 → w.2 59 (169 * n + 13 * d + f) = lN b → b ≤ 1000000000000 → lq (w.2 60 (13 * n + f)) ≤ lcap (a + b) ∧ ∀ m' g, m' < 64 → mGoI w n f m' g → lq (w.2 60 (13 * m' + g)) ≤ lcap (lq (w.2 60 (13 * n + f)) + 1)
theorem wSnd_go {w w1 : qq_w} {D : Nat → Nat → Prop} {C : Prop} (h : mRl 60 832 w w1 D C) (hs : wSnd w D) : wSnd w1 D := by
  intro c L hc e hL
  rcases h.2.2.2.1 c with z | ⟨-, -, L', z3, z4, z5⟩
  · rw [z] at e; exact hs c L hc e hL
  · rw [z4] at e
    have := (lL_eq (by omega) (by omega)).mp e
    subst this
    exact z5
/-- an owner's ENTER -/
def mOwn (w : qq_w) (N : Nat) : Prop := ∀ n, n < N → ∃ p m, p < 8 ∧ m < N ∧ w.1 42 n = nI p ∧ w.1 39 p = nI m ∧ w.1 43 m = 0
abbrev cs_X8_wholeFrom : List (Nat × qq_t) := [(4, T_X8_at), (1, T_X8_far), (4, T_X8_flows)]
def T_X8_wholeFrom : qq_t := fun As w P => match As with
  | [.ref 8, .int a, .int d, .int f] => (vp_in a 64 ∧ vp_in d 13 ∧ vp_in f 13 ∧ mPW w (qn (w.1 8 8)) ∧ mOwn w (qn (w.1 8 8)) ∧ qn a < qn (w.1 8 8) ∧ lOk (w.2 59) 4000000000000000000 10816 ∧ lOk (w.2 60) 4000000000000000000 832 ∧ wSnd w (mWDc w (qn (w.1 8 8)))) ∧ ∀ w', mRl 60 832 w w' (mWDc w (qn (w.1 8 8))) (mWClF w (qn a) (qn d) (qn f)) → P none w'
  | _ => False
theorem wf_128 {P : Option Value → qq_w → Prop} {K : Nat → qq_L → List Value → qq_w → Prop} (S : qq_Sat ww_sh ww_ro cs_X8_wholeFrom (qq_at 242 kd_X8_wholeFrom) none P K) {w : qq_w} {a d f x10 : Int32} {n fn N : Nat} {C0 : Prop} (hP : mPW w N) (ea : a = nI n) (hn : n < N) (ef : f = nI fn) (hf : fn < 13) (hO : lOk (w.2 60) 4000000000000000000 832) (hS : wSnd w (mWDc w N)) (hb : ∀ g, bt x10 g = true ↔ (w.1 43 n = 9 ∧ mF w n 1 fn g))
    {w0 : qq_w} (h0 : mRl 60 832 w w0 (mWDc w N) C0) {V : Nat} (eV : w0.2 60 (13 * n + fn) = lN V) (hV : V ≤ 1000000000000)
    (hq : ∀ w1, mRl 60 832 w0 w1 (mWDc w N) (∀ m' g, m' < 64 → mGoI w n fn m' g → lq (w0.2 60 (13 * m' + g)) ≤ lcap (V + 1)) → P none w1) :
    ∀ m i, i + m = 13 → ∀ (x11 : Int32) (w1 : qq_w), x11 = nI i → w1.2 60 (13 * n + fn) = lN V → mRl 60 832 w0 w1 (mWDc w N) (∀ m' g, m' < 64 → g < i → mGoI w n fn m' g → lq (w0.2 60 (13 * m' + g)) ≤ lcap (V + 1)) → K 128 [(0, .ref 8), (1, .int a), (2, .int d), (3, .int f), (10, .int x10), (11, .int x11)] [] w1 := by
  have hN := hP.2.1
  have o0 := h0.1
  intro m
  induction m with
  | zero =>
    intro i hi x11 w1 e11 _ h1
    have : i = 13 := by omega
    subst this
    refine qq_go_ok S (fun pc => Nat.beq pc 128) 60 ?_
    conv => whnf
    refine br_t (i_ge 13 e11 (by omega) (by omega)) ?_
    conv => whnf
    refine hq w1 (mRl_mono h1 (fun _ _ z => z) (fun z m' g y1 y2 => z m' g y1 ?_ y2))
    obtain ⟨x', hx', hb'⟩ := y2.2.2
    exact fs_lt (hP.2.2.2.2.2 n 1 fn x' hn (by omega) hf hx') hb'
  | succ m ih =>
    intro i hi x11 w1 e11 hv1 h1
    have ce := nI_mr ea ef (nI_lit 13)
    have cc := i_c ce (by omega)
    have k1 : w1.1 43 a.toNatClampNeg = w.1 43 n := by rw [h1.1 43 (by decide), o0 43 (by decide), i_c ea (by omega)]
    have hb1 : (x10 >>> (x11 &&& 31)) &&& 1 = 1 ↔ (w.1 43 n = 9 ∧ mF w n 1 fn i) := by rw [e11, ← hb]; exact b_has1 (by omega) _
    have skip : ¬ (w.1 43 n = 9 ∧ mF w n 1 fn i) → K 128 [(0, .ref 8), (1, .int a), (2, .int d), (3, .int f), (10, .int x10), (11, .int (x11 + 1))] [] w1 := fun z => by
      refine ih (i + 1) (by omega) _ w1 (i_s e11) hv1 (mRl_mono h1 (fun _ _ z => z) (fun y m' g y1 y2 y3 => ?_))
      by_cases q : g = i
      · subst q; exact absurd ⟨y3.1, y3.2.2⟩ z
      · exact y m' g y1 (by omega) y3
    refine qq_go_ok S (fun pc => Nat.beq pc 128) 80 ?_
    conv => whnf
    refine br_f (i_nge 13 e11 (by omega) (by omega)) ?_
    conv => whnf
    refine ⟨i_in 64 ea (by omega) (by decide), ?_⟩
    conv => whnf
    refine ⟨fun h => ?_, fun h => ?_⟩
    · have h : ¬ w1.1 43 a.toNatClampNeg = 9 := h
      rw [k1] at h
      conv => whnf
      refine br_nt (fun z => h (hb1.mp z).1) ?_
      conv => whnf
      exact qq_wk S (skip fun z => h z.1) ⟨rfl, rfl, rfl, rfl, rfl, rfl, trivial⟩
    · have h : w1.1 43 a.toNatClampNeg = 9 := h
      rw [k1] at h
      obtain ⟨p, r, l, q1, q2, q3, q4, q5, q6, q7, q8, q9, q10⟩ := hP.2.2.1 _ hn h
      have o47 : w1.1 47 a.toNatClampNeg = nI p := by rw [h1.1 47 (by decide), o0 47 (by decide), i_c ea (by omega)]; exact q4
      have o39 : w1.1 39 (w1.1 47 a.toNatClampNeg).toNatClampNeg = nI l := by rw [i_c o47 (by omega), h1.1 39 (by decide), o0 39 (by decide)]; exact q6
      have e12 : (13 : Int32) * w1.1 39 (w1.1 47 a.toNatClampNeg).toNatClampNeg + x11 = nI (13 * l + i) := nI_mr o39 e11 (nI_lit 13)
      have c12 := i_c e12 (by omega)
      conv => whnf
      refine ⟨i_in 64 ea (by omega) (by decide), ?_⟩
      conv => whnf
      refine ⟨i_in 8 o47 (by omega) (by decide), ?_⟩
      conv => whnf
      refine ⟨fun hh => ?_, fun hh => ?_⟩
      · conv => whnf
        exact qq_wk S (skip fun z => hh (hb1.mpr z)) ⟨rfl, rfl, rfl, rfl, rfl, rfl, trivial⟩
      · have hh := (hb1.mp hh).2
        have hgo : mGoI w n fn l i := ⟨h, by rw [q4, qn_nI (by omega)]; exact q6, hh⟩
        obtain ⟨L, eL, hL⟩ := mRl_ok h1 (mRl_ok h0 hO) (13 * l + i) (by omega)
        have hlc := lcap_le (V + 1)
        have cv : w1.2 60 ((13 : Int32) * a + f).toNatClampNeg = lN V := by rw [cc]; exact hv1
        have el : lfar (w1.2 60 ((13 : Int32) * a + f).toNatClampNeg + 1) = lN (lcap (V + 1)) := by rw [cv, lN_1]; exact lfar_lN (by omega)
        have c60 : w1.2 60 ((13 : Int32) * w1.1 39 (w1.1 47 a.toNatClampNeg).toNatClampNeg + x11).toNatClampNeg = lN L := by rw [c12]; exact eL
        have hlt : lfar (w1.2 60 ((13 : Int32) * a + f).toNatClampNeg + 1) < w1.2 60 ((13 : Int32) * w1.1 39 (w1.1 47 a.toNatClampNeg).toNatClampNeg + x11).toNatClampNeg ↔ lcap (V + 1) < L := by rw [el, c60]; exact lL_lt (by omega) (by omega)
        conv => whnf
        refine ⟨i_in 832 ce (by omega) (by decide), ?_⟩
        conv => whnf
        refine ⟨trivial, ?_⟩
        conv => whnf
        refine ⟨i_in 832 e12 (by omega) (by decide), ?_⟩
        conv => whnf
        refine ⟨fun h2 => ?_, fun h2 => ?_⟩
        · have h2 : ¬ lcap (V + 1) < L := fun z => lcmp_ge.mp h2 (hlt.mpr z)
          conv => whnf
          refine qq_wk S (ih (i + 1) (by omega) _ w1 (i_s e11) hv1 (mRl_tr h1 (mRl_rf (C := lq (w1.2 60 (13 * l + i)) ≤ lcap (V + 1)) ?_) (fun z y1 y2 m' g y3 y4 y5 => ?_))) ⟨rfl, rfl, rfl, rfl, rfl, rfl, trivial⟩
          · rw [eL, lq_lN (by omega)]
            omega
          · by_cases q : g = i
            · subst q
              have y6 := y5.2.1
              rw [q4, qn_nI (by omega), q6] at y6
              have : m' = l := (nI_eq (by omega) (by omega)).mp y6.symm
              subst this
              rw [z] at y2
              exact y2
            · exact y1 m' g y3 (by omega) y5
        · have h2 : lcap (V + 1) < L := by
            by_cases z : lcap (V + 1) < L
            · exact z
            · exact absurd (lcmp_ge.mpr (fun y => z (hlt.mp y))) h2
          conv => whnf
          refine ⟨i_in 832 ce (by omega) (by decide), ?_⟩
          conv => whnf
          refine ⟨trivial, ?_⟩
          conv => whnf
          refine ⟨i_in 832 e12 (by omega) (by decide), ?_⟩
          conv => whnf
          refine ⟨Or.inr rfl, ?_⟩
          conv => whnf
          have hder : mWDc w N (13 * l + i) (lcap (V + 1)) := by
            obtain ⟨n', f', y1, y2, y3⟩ := wSnd_go h1 (wSnd_go h0 hS) (13 * n + fn) V (by omega) hv1 hV
            have : n' = n := by omega
            subst this
            have : f' = fn := by omega
            subst this
            exact ⟨l, i, by omega, rfl, WDer.go y3 hgo⟩
          have key := mRl_put (k := 60) (M := 832) (c := 13 * l + i) (w := w1) (A := mWDc w N) (C := False) (Or.inr rfl) (by omega) el hlc (by rw [eL, el, lq_lN (by omega), lq_lN (by omega)]; exact h2) hder
          rw [← c12] at key
          refine qq_wk S (ih (i + 1) (by omega) _ _ (i_s e11) ?_ (mRl_tr h1 key (fun _ _ z => z.elim))) ⟨rfl, rfl, rfl, rfl, rfl, rfl, trivial⟩
          show vp_updL (w1.2 60) _ _ (13 * n + fn) = _
          rw [c12, updL_at, if_neg ?_]
          · exact hv1
          · intro z
            have : n = l := by omega
            subst this
            rw [h] at q9
            exact absurd q9 (by decide)
theorem wf_101 {P : Option Value → qq_w → Prop} {K : Nat → qq_L → List Value → qq_w → Prop} (S : qq_Sat ww_sh ww_ro cs_X8_wholeFrom (qq_at 242 kd_X8_wholeFrom) none P K) {w : qq_w} {a d f : Int32} {n fn N : Nat} {C0 : Prop} (hP : mPW w N) (ea : a = nI n) (hn : n < N) (ef : f = nI fn) (hf : fn < 13) (hO : lOk (w.2 60) 4000000000000000000 832) (hS : wSnd w (mWDc w N))
    {w0 : qq_w} (h0 : mRl 60 832 w w0 (mWDc w N) C0) {V : Nat} (eV : w0.2 60 (13 * n + fn) = lN V) (hV : V ≤ 1000000000000)
    (hq : ∀ w1, mRl 60 832 w0 w1 (mWDc w N) (∀ m' g, m' < 64 → mGoI w n fn m' g → lq (w0.2 60 (13 * m' + g)) ≤ lcap (V + 1)) → P none w1) :
    K 101 [(0, .ref 8), (1, .int a), (2, .int d), (3, .int f)] [] w0 := by
  have hN := hP.2.1
  have qa : qn a = n := by rw [ea]; exact qn_nI (by omega)
  have k0 : w0.1 43 a.toNatClampNeg = w.1 43 n := by rw [h0.1 43 (by decide), i_c ea (by omega)]
  refine qq_go_ok S (fun pc => Nat.beq pc 128) 60 ?_
  conv => whnf
  refine ⟨i_in 64 ea (by omega) (by decide), ?_⟩
  conv => whnf
  refine ⟨fun h => ?_, fun h => ?_⟩
  · have h : ¬ w0.1 43 a.toNatClampNeg = 9 := h
    rw [k0] at h
    conv => whnf
    exact qq_wk S (wf_128 S (x10 := 0) hP ea hn ef hf hO hS (fun g => by rw [b_0]; exact ⟨fun z => (nomatch z), fun z => absurd z.1 h⟩) h0 eV hV hq 13 0 rfl _ w0 rfl eV (mRl_rf fun m' g _ z => absurd z (by omega))) ⟨rfl, rfl, rfl, rfl, rfl, rfl, trivial⟩
  · have h : w0.1 43 a.toNatClampNeg = 9 := h
    rw [k0] at h
    conv => whnf
    refine ⟨⟨i_in 64 ea (by omega) (by decide), i_in 3 (k := 1) rfl (by omega) (by decide), i_in 13 ef hf (by decide), by rw [qa]; exact (mPW_eq h0.1 h0.2.1 hP).2.2.2.2.1 n hn⟩, fun x hx => ?_⟩
    have hx : mTgt w n 1 (nI fn) x := by
      have := (mTgt_eq h0.1 h0.2.1 _ _ _ _).mp hx
      rw [qa, ef] at this
      exact this
    conv => whnf
    exact qq_wk S (wf_128 S (x10 := x) hP ea hn ef hf hO hS (fun g => by rw [mF_iff hx]; exact ⟨fun z => ⟨h, z⟩, fun z => z.2⟩) h0 eV hV hq 13 0 rfl _ w0 rfl eV (mRl_rf fun m' g _ z => absurd z (by omega))) ⟨rfl, rfl, rfl, rfl, rfl, rfl, trivial⟩
set_option maxHeartbeats 4000000 in
set_option maxRecDepth 100000 in
theorem bd_X8_wholeFrom : ∀ As w P K, qq_Sat ww_sh ww_ro cs_X8_wholeFrom (qq_at 242 kd_X8_wholeFrom) none P K → T_X8_wholeFrom As w P → K 0 (lv_args 0 As) [] w := by
  intro As w P K S h
  unfold T_X8_wholeFrom at h
  split at h
  · rename_i a d f
    obtain ⟨⟨hp, hp2, hp3, hP, hOw, hn, hO9, hO, hS⟩, hq⟩ := h
    obtain ⟨ea, ha⟩ := qn_eq hp (by decide)
    obtain ⟨ed, hd⟩ := qn_eq hp2 (by decide)
    obtain ⟨ef, hf⟩ := qn_eq hp3 (by decide)
    have hN := hP.2.1
    obtain ⟨p, m, hpp, hm, e42, e39, k0⟩ := hOw _ hn
    have o42 : w.1 42 a.toNatClampNeg = nI p := e42
    have o39 : w.1 39 (w.1 42 a.toNatClampNeg).toNatClampNeg = nI m := by rw [i_c o42 (by omega)]; exact e39
    have i1 : (13 : Int32) * w.1 39 (w.1 42 a.toNatClampNeg).toNatClampNeg + d = nI (13 * m + qn d) := nI_mr o39 ed (nI_lit 13)
    have i2 := nI_at ea ed ef
    have i3 : (13 : Int32) * a + f = nI (13 * qn a + qn f) := nI_mr ea ef (nI_lit 13)
    have c1 := i_c i1 (by omega)
    have c2 := i_c i2 (by omega)
    have c3 := i_c i3 (by omega)
    obtain ⟨A, eA, hA⟩ := hO (13 * m + qn d) (by omega)
    obtain ⟨B, eB, hB⟩ := hO9 (169 * qn a + 13 * qn d + qn f) (by omega)
    obtain ⟨V, eV, hV⟩ := hO (13 * qn a + qn f) (by omega)
    have cA : w.2 60 ((13 : Int32) * w.1 39 (w.1 42 a.toNatClampNeg).toNatClampNeg + d).toNatClampNeg = lN A := by rw [c1]; exact eA
    have cB : w.2 59 ((169 : Int32) * a + 13 * d + f).toNatClampNeg = lN B := by rw [c2]; exact eB
    have cV : w.2 60 ((13 : Int32) * a + f).toNatClampNeg = lN V := by rw [c3]; exact eV
    have nA : w.2 60 ((13 : Int32) * w.1 39 (w.1 42 a.toNatClampNeg).toNatClampNeg + d).toNatClampNeg = 4000000000000000000 ↔ A = 4000000000000000000 := by rw [cA]; exact lL_eq (b := 4000000000000000000) (by omega) (by omega)
    have nB : w.2 59 ((169 : Int32) * a + 13 * d + f).toNatClampNeg = 4000000000000000000 ↔ B = 4000000000000000000 := by rw [cB]; exact lL_eq (b := 4000000000000000000) (by omega) (by omega)
    have uniq : ∀ m', m' < 64 → mPr w (qn a) m' → m' = m := fun m' h1 h2 => by
      unfold mPr at h2
      rw [e42, qn_nI (by omega), e39] at h2
      exact (nI_eq (by omega) (by omega)).mp h2.symm
    have none' : A = 4000000000000000000 ∨ B = 4000000000000000000 → P none w := fun z => by
      refine hq w (mRl_rf fun m' a' b' y1 y2 y3 y4 y5 y6 => ?_)
      have := uniq m' y1 y2
      subst this
      rw [eA] at y3
      rw [eB] at y5
      have := (lL_eq (by omega) (by omega)).mp y3
      have := (lL_eq (by omega) (by omega)).mp y5
      omega
    refine qq_go_ok S (fun pc => Nat.beq pc 101) 80 ?_
    conv => whnf
    refine ⟨hp, ?_⟩
    conv => whnf
    refine ⟨i_in 8 o42 hpp (by decide), ?_⟩
    conv => whnf
    refine ⟨i_in 832 i1 (by omega) (by decide), ?_⟩
    conv => whnf
    refine ⟨i_in 10816 i2 (by omega) (by decide), ?_⟩
    conv => whnf
    refine ⟨fun h => ?_, fun h => ?_⟩
    · conv => whnf
      exact none' (Or.inl (nA.mp (lcmp0.mp h)))
    have hA : A ≤ 1000000000000 := by
      rcases hA with z | z
      · exact z
      · exact absurd (lcmp0.mpr (nA.mpr z)) h
    conv => whnf
    refine ⟨fun h2 => ?_, fun h2 => ?_⟩
    · have h2 : ¬ w.2 59 ((169 : Int32) * a + 13 * d + f).toNatClampNeg = 4000000000000000000 := fun z => h2 (lcmp0.mpr z)
      have hB : B ≤ 1000000000000 := by
        rcases hB with z | z
        · exact z
        · exact absurd (nB.mpr z) h2
      have el : lfar (w.2 60 ((13 : Int32) * w.1 39 (w.1 42 a.toNatClampNeg).toNatClampNeg + d).toNatClampNeg + w.2 59 ((169 : Int32) * a + 13 * d + f).toNatClampNeg) = lN (lcap (A + B)) := by rw [cA, cB, lN_add]; exact lfar_lN (by omega)
      have hlc := lcap_le (A + B)
      have hlt : lfar (w.2 60 ((13 : Int32) * w.1 39 (w.1 42 a.toNatClampNeg).toNatClampNeg + d).toNatClampNeg + w.2 59 ((169 : Int32) * a + 13 * d + f).toNatClampNeg) < w.2 60 ((13 : Int32) * a + f).toNatClampNeg ↔ lcap (A + B) < V := by rw [el, cV]; exact lL_lt (by omega) (by omega)
      have hder : mWDc w (qn (w.1 8 8)) (13 * qn a + qn f) (lcap (A + B)) := by
        obtain ⟨n', f', y1, y2, y3⟩ := hS (13 * m + qn d) A (by omega) eA hA
        have : n' = m := by omega
        subst this
        have : f' = qn d := by omega
        subst this
        exact ⟨qn a, qn f, hf, rfl, WDer.lv (by unfold mPr; rw [e42, qn_nI (by omega)]; exact e39) y3 ⟨hn, hd, hf, eB, hB⟩⟩
      conv => whnf
      refine ⟨trivial, ?_⟩
      conv => whnf
      refine ⟨i_in 832 i3 (by omega) (by decide), ?_⟩
      conv => whnf
      refine ⟨fun h3 => ?_, fun h3 => ?_⟩
      · have h3 : ¬ lcap (A + B) < V := fun z => lcmp_ge.mp h3 (hlt.mpr z)
        have hV : V ≤ 1000000000000 := by omega
        conv => whnf
        refine qq_wk S (wf_101 S (C0 := lq (w.2 60 (13 * qn a + qn f)) ≤ lcap (A + B)) hP ea hn ef hf hO hS (mRl_rf (by rw [eV, lq_lN (by omega)]; omega)) eV hV (fun w1 h1 => hq w1 (mRl_mono h1 (fun _ _ z => z) (fun z m' a' b' y1 y2 y3 y4 y5 y6 => ?_)))) ⟨rfl, rfl, rfl, rfl, trivial⟩
        have := uniq m' y1 y2
        subst this
        rw [eA] at y3
        rw [eB] at y5
        have := (lL_eq (by omega) (by omega)).mp y3
        subst this
        have := (lL_eq (by omega) (by omega)).mp y5
        subst this
        refine ⟨by rw [eV, lq_lN (by omega)]; omega, fun m2 g q1 q2 => ?_⟩
        rw [eV, lq_lN (by omega)]
        exact z m2 g q1 q2
      · have h3 : lcap (A + B) < V := by
          by_cases z : lcap (A + B) < V
          · exact z
          · exact absurd (lcmp_ge.mpr (fun y => z (hlt.mp y))) h3
        conv => whnf
        refine ⟨i_in 832 i3 (by omega) (by decide), ?_⟩
        conv => whnf
        refine ⟨Or.inr rfl, ?_⟩
        conv => whnf
        have key := mRl_put (k := 60) (M := 832) (c := 13 * qn a + qn f) (w := w) (A := mWDc w (qn (w.1 8 8))) (C := False) (Or.inr rfl) (by omega) el hlc (by rw [eV, el, lq_lN (by omega), lq_lN (by omega)]; exact h3) hder
        rw [← c3] at key
        refine qq_wk S (wf_101 S (C0 := False) hP ea hn ef hf hO hS key (V := lcap (A + B)) ?_ hlc (fun w1 h1 => hq w1 (mRl_tr key h1 (fun _ z _ => z.elim)))) ⟨rfl, rfl, rfl, rfl, trivial⟩
        show vp_updL (w.2 60) _ _ (13 * qn a + qn f) = _
        rw [c3, updL_at, if_pos rfl]
        exact el
    · have h2 : w.2 59 ((169 : Int32) * a + 13 * d + f).toNatClampNeg = 4000000000000000000 := lcmp0.mp h2
      conv => whnf
      exact none' (Or.inr (nB.mp h2))
  · exact h.elim
theorem ha_X8_wholeFrom : ∀ As w P, T_X8_wholeFrom As w P → qq_wd As ≤ 13 := by
  intro As w P h
  unfold T_X8_wholeFrom at h
  split at h
  · exact Nat.le_of_ble_eq_true rfl
  · exact h.elim
theorem hv_X8_wholeFrom : ∀ As w P, T_X8_wholeFrom As w P → ∃ (k : Nat) (r : List Value) (fs : List Nat), As = .ref k :: r ∧ ww_sh[k]? = some (.inr (8, fs)) := by
  intro As w P h
  unfold T_X8_wholeFrom at h
  split at h
  · exact ⟨_, _, _, rfl, rfl⟩
  · exact h.elim
set_option maxRecDepth 100000 in
theorem M_X8_wholeFrom (l : Launch) : qq_M l ww_T ww_N vwCl ww_sh ww_ro ww_zs yX8_wholeFrom cX8_wholeFrom 13 none (ww_rm 3) T_X8_wholeFrom := by
  refine qq_mk (host := RX7) (is := ki_X8_wholeFrom) (cs := cs_X8_wholeFrom) (by decide) ww_k1 wl_X8 ww_so ww_so2 kc_X8_wholeFrom kv_X8_wholeFrom kg_X8_wholeFrom ?_ ha_X8_wholeFrom bd_X8_wholeFrom
  intro k i q hi hq
  match k, hi, hq with
  | 0, hi, hq => cases hi; cases hq; exact fun p e s m args below meth c D tys tC ad Q pc X hdg => qq_cV (ci := 8) X ww_gd (M_X8_at l) kf_X8_at.1 (Or.inl (ww_a6 (i := 61) (w := Cond.methodLink RX8 251 yX8_at) rfl rfl)) kf_X8_at.2.1 kf_X8_at.2.2.1 kf_X8_at.2.2.2 ⟨by decide, by decide, by decide +kernel⟩ rfl rfl rfl ⟨by decide, by decide⟩ ⟨Nat.le_refl _, Nat.le_refl _⟩ hv_X8_at hdg
  | 1, hi, hq => cases hi; cases hq; exact fun p e s m args below meth c D tys tC ad Q pc X hdg => qq_cS X ww_gd (M_X8_far l) kf_X8_far.1 (Or.inl (ww_a6 (i := 69) (w := Cond.methodLink RX8 259 yX8_far) rfl rfl)) kf_X8_far.2.1 kf_X8_far.2.2 ⟨by decide, by decide, by decide +kernel⟩ rfl rfl ⟨by decide, by decide⟩ ⟨Nat.le_refl _, Nat.le_refl _⟩ hdg
  | 2, hi, hq => cases hi; cases hq; exact fun p e s m args below meth c D tys tC ad Q pc X hdg => qq_cV (ci := 8) X ww_gd (M_X8_flows l) kf_X8_flows.1 (Or.inl (ww_a5 (i := 187) (w := Cond.methodLink RX8 184 yX8_flows) rfl rfl)) kf_X8_flows.2.1 kf_X8_flows.2.2.1 kf_X8_flows.2.2.2 ⟨by decide, by decide, by decide +kernel⟩ rfl rfl rfl ⟨by decide, by decide⟩ ⟨Nat.le_refl _, Nat.le_refl _⟩ hv_X8_flows hdg
  | n + 3, hi, hq => simp [cs_X8_wholeFrom] at hq
