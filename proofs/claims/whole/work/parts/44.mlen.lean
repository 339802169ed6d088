/-! lengths -/
def lq (x : Int64) : Nat := x.toInt.toNat
theorem lL_toInt {n : Nat} (h : n < 2 ^ 63) : (lN n).toInt = (n : Int) := Int64.toInt_ofNat_of_lt h
theorem lq_lN {n : Nat} (h : n < 2 ^ 63) : lq (lN n) = n := by
  unfold lq
  rw [lL_toInt h]
  rfl
theorem lL_lt {a b : Nat} (ha : a < 2 ^ 63) (hb : b < 2 ^ 63) : lN a < lN b ↔ a < b := by
  rw [Int64.lt_iff_toInt_lt, lL_toInt ha, lL_toInt hb]
  omega
theorem lL_eq {a b : Nat} (ha : a < 2 ^ 63) (hb : b < 2 ^ 63) : lN a = lN b ↔ a = b := by
  constructor
  · intro h
    have := congrArg lq h
    rwa [lq_lN ha, lq_lN hb] at this
  · intro h; rw [h]
/-- above the longest that is told all are alike -/
def lcap (x : Nat) : Nat := if 1000000000000 < x then 1000000000000 else x
theorem lcap_le (x : Nat) : lcap x ≤ 1000000000000 := by
  unfold lcap
  split <;> omega
theorem lcap_mono {x y : Nat} (h : x ≤ y) : lcap x ≤ lcap y := by
  unfold lcap
  split <;> split <;> omega
theorem lcap_ge (x : Nat) : x ≤ lcap x ∨ lcap x = 1000000000000 := by
  unfold lcap
  split
  · exact Or.inr rfl
  · exact Or.inl (Nat.le_refl _)
theorem lfar_lN {x : Nat} (h : x < 2 ^ 63) : lfar (lN x) = lN (lcap x) := by
  unfold lfar lcap
  have e : (1000000000000 : Int64) < lN x ↔ 1000000000000 < x := lL_lt (a := 1000000000000) (by omega) h
  by_cases z : 1000000000000 < x
  · rw [if_pos (e.mpr z), if_pos z]
    rfl
  · rw [if_neg (fun y => z (e.mp y)), if_neg z]
/-- a row of lengths: each is told, or unknown -/
def lOk (f : Nat → Int64) (U M : Nat) : Prop := ∀ c, c < M → ∃ L, f c = lN L ∧ (L ≤ 1000000000000 ∨ L = U)
/-- one row of lengths gets shorter ones, or nothing has changed and something holds -/
def mRl (k M : Nat) (w w' : qq_w) (A : Nat → Nat → Prop) (C : Prop) : Prop :=
  (∀ q, q ≠ 8 → w'.1 q = w.1 q) ∧ (∀ j, j ≠ 39 → w'.1 8 j = w.1 8 j) ∧ (∀ q, q ≠ k → w'.2 q = w.2 q) ∧
  (∀ c, w'.2 k c = w.2 k c ∨ (c < M ∧ lq (w'.2 k c) < lq (w.2 k c) ∧ ∃ L, L ≤ 1000000000000 ∧ w'.2 k c = lN L ∧ A c L)) ∧
  ((w'.2 k = w.2 k ∧ w'.1 8 39 = w.1 8 39 ∧ C) ∨ (w'.1 8 39 = 1 ∧ ∃ c, c < M ∧ lq (w'.2 k c) < lq (w.2 k c)))
theorem mRl_rf {k M : Nat} {w : qq_w} {A : Nat → Nat → Prop} {C : Prop} (h : C) : mRl k M w w A C := ⟨fun _ _ => rfl, fun _ _ => rfl, fun _ _ => rfl, fun _ => Or.inl rfl, Or.inl ⟨rfl, rfl, h⟩⟩
theorem mRl_le {k M : Nat} {w w' : qq_w} {A : Nat → Nat → Prop} {C : Prop} (h : mRl k M w w' A C) (c : Nat) : lq (w'.2 k c) ≤ lq (w.2 k c) := by
  rcases h.2.2.2.1 c with z | ⟨-, z, -⟩
  · rw [z]; exact Nat.le_refl _
  · omega
theorem mRl_tr {k M : Nat} {w w1 w2 : qq_w} {A : Nat → Nat → Prop} {C1 C2 C : Prop} (h1 : mRl k M w w1 A C1) (h2 : mRl k M w1 w2 A C2) (hC : w1.2 k = w.2 k → C1 → C2 → C) : mRl k M w w2 A C := by
  have l1 := mRl_le h1
  have l2 := mRl_le h2
  obtain ⟨a1, a2, a3, a4, a5⟩ := h1
  obtain ⟨b1, b2, b3, b4, b5⟩ := h2
  refine ⟨fun q hq => (b1 q hq).trans (a1 q hq), fun j hj => (b2 j hj).trans (a2 j hj), fun q hq => (b3 q hq).trans (a3 q hq), fun c => ?_, ?_⟩
  · have := l1 c
    rcases b4 c with z | ⟨z1, z2, L, z3, z4, z5⟩
    · rw [z]; exact a4 c
    · exact Or.inr ⟨z1, by omega, L, z3, z4, z5⟩
  · rcases b5 with ⟨z1, z2, z3⟩ | ⟨z1, c, z2, z3⟩
    · rcases a5 with ⟨y1, y2, y3⟩ | ⟨y1, c, y2, y3⟩
      · exact Or.inl ⟨z1.trans y1, z2.trans y2, hC y1 y3 z3⟩
      · exact Or.inr ⟨z2.trans y1, c, y2, by rw [z1]; exact y3⟩
    · have := l1 c
      exact Or.inr ⟨z1, c, z2, by omega⟩
theorem mRl_mono {k M : Nat} {w w' : qq_w} {A A' : Nat → Nat → Prop} {C C' : Prop} (h : mRl k M w w' A C) (hA : ∀ c L, A c L → A' c L) (hC : C → C') : mRl k M w w' A' C' := by
  obtain ⟨a1, a2, a3, a4, a5⟩ := h
  refine ⟨a1, a2, a3, fun c => ?_, ?_⟩
  · rcases a4 c with z | ⟨z1, z2, L, z3, z4, z5⟩
    · exact Or.inl z
    · exact Or.inr ⟨z1, z2, L, z3, z4, hA c L z5⟩
  · rcases a5 with ⟨z1, z2, z3⟩ | z
    · exact Or.inl ⟨z1, z2, hC z3⟩
    · exact Or.inr z
theorem mRl_ok {k M U M' : Nat} {w w' : qq_w} {A : Nat → Nat → Prop} {C : Prop} (h : mRl k M w w' A C) (hO : lOk (w.2 k) U M') : lOk (w'.2 k) U M' := by
  intro c hc
  rcases h.2.2.2.1 c with z | ⟨-, -, L, z3, z4, -⟩
  · rw [z]; exact hO c hc
  · exact ⟨L, z4, Or.inl z3⟩
theorem mRl_put {k M c V : Nat} {w : qq_w} {A : Nat → Nat → Prop} {C : Prop} {v : Int64} (hk : k = 59 ∨ k = 60) (hc : c < M) (ev : v = lN V) (hV : V ≤ 1000000000000) (hlt : lq v < lq (w.2 k c)) (hA : A c V) : mRl k M w (qq_ui (qq_ul w k c v) 8 39 1) A C := by
  have e2 : (qq_ui (qq_ul w k c v) 8 39 1).2 = va_up w.2 k (vp_updL (w.2 k) c v) := rfl
  have ek : (qq_ui (qq_ul w k c v) 8 39 1).2 k = vp_updL (w.2 k) c v := by rw [e2]; simp [va_up]
  refine ⟨fun q hq => ?_, fun j hj => ?_, fun q hq => ?_, fun x => ?_, Or.inr ⟨rfl, c, hc, ?_⟩⟩
  · simp only [qq_ui, qq_ul, va_up, hq, if_false]
  · show upd (w.1 8) 39 1 j = _
    rw [upd_at, if_neg hj]
  · rw [e2]
    simp only [va_up, hq, if_false]
  · rw [ek, updL_at]
    by_cases z : x = c
    · rw [if_pos z, z]
      exact Or.inr ⟨hc, hlt, V, hV, ev, hA⟩
    · rw [if_neg z]
      exact Or.inl rfl
  · rw [ek, updL_at, if_pos rfl]
    exact hlt
abbrev cs_X8_shortens : List (Nat × qq_t) := [(4, T_X8_at)]
def T_X8_shortens : qq_t := fun As w P => match As with
  | [.ref 8, .int a, .int d, .int b, .long v] => ((vp_in a 64 ∧ vp_in d 13 ∧ lOk (w.2 59) 4000000000000000000 10816) ∧ ∃ V, v = lN V ∧ V ≤ 1000000000000) ∧ ∀ w', mRl 59 10816 w w' (fun c L => L = lq v ∧ ∃ f, f < 13 ∧ bt b f = true ∧ c = 169 * qn a + 13 * qn d + f) (∀ f, f < 13 → bt b f = true → lq (w.2 59 (169 * qn a + 13 * qn d + f)) ≤ lq v) → P none w'
  | _ => False
theorem nI_at {a b f : Int32} {n p i : Nat} (ha : a = nI n) (hb : b = nI p) (hf : f = nI i) : (169 : Int32) * a + 13 * b + f = nI (169 * n + 13 * p + i) := by
  have e1 : (169 : Int32) * a = nI (169 * n) := by rw [ha]; exact pk_mul 169 n
  have e2 : (13 : Int32) * b = nI (13 * p) := by rw [hb]; exact pk_mul 13 p
  rw [e1, e2, hf, nI_add, nI_add]
theorem sh_3 {P : Option Value → qq_w → Prop} {K : Nat → qq_L → List Value → qq_w → Prop} (S : qq_Sat ww_sh ww_ro cs_X8_shortens (qq_at 66 kd_X8_shortens) none P K) {w : qq_w} {a d b : Int32} {v : Int64} {n p V : Nat} (ea : a = nI n) (hn : n < 64) (ed : d = nI p) (hp : p < 13) (ev : v = lN V) (hV : V ≤ 1000000000000) (hO : lOk (w.2 59) 4000000000000000000 10816)
    (hq : ∀ w', mRl 59 10816 w w' (fun c L => L = lq v ∧ ∃ f, f < 13 ∧ bt b f = true ∧ c = 169 * n + 13 * p + f) (∀ f, f < 13 → bt b f = true → lq (w.2 59 (169 * n + 13 * p + f)) ≤ lq v) → P none w') :
    ∀ m i, i + m = 13 → ∀ (x6 : Int32) (w1 : qq_w), x6 = nI i → mRl 59 10816 w w1 (fun c L => L = lq v ∧ ∃ f, f < 13 ∧ bt b f = true ∧ c = 169 * n + 13 * p + f) (∀ f, f < i → bt b f = true → lq (w.2 59 (169 * n + 13 * p + f)) ≤ lq v) → K 3 [(0, .ref 8), (1, .int a), (2, .int d), (3, .int b), (4, .long v), (6, .int x6)] [] w1 := by
  intro m
  induction m with
  | zero =>
    intro i hi x6 w1 e6 h1
    have : i = 13 := by omega
    subst this
    refine qq_go_ok S (fun pc => Nat.beq pc 3) 60 ?_
    conv => whnf
    refine br_t (i_ge 13 e6 (by omega) (by omega)) ?_
    conv => whnf
    exact hq w1 h1
  | succ m ih =>
    intro i hi x6 w1 e6 h1
    have hb1 : (b >>> (x6 &&& 31)) &&& 1 = 1 ↔ bt b i = true := by rw [e6]; exact b_has1 (by omega) _
    refine qq_go_ok S (fun pc => Nat.beq pc 3) 60 ?_
    conv => whnf
    refine br_f (i_nge 13 e6 (by omega) (by omega)) ?_
    conv => whnf
    refine ⟨fun h => ?_, fun h => ?_⟩
    · have h : ¬ bt b i = true := fun z => h (hb1.mpr z)
      conv => whnf
      refine qq_wk S (ih (i + 1) (by omega) _ w1 (i_s e6) (mRl_mono h1 (fun _ _ z => z) (fun z f y1 y2 => ?_))) ⟨rfl, rfl, rfl, rfl, rfl, rfl, trivial⟩
      by_cases q : f = i
      · subst q; exact absurd y2 h
      · exact z f (by omega) y2
    · have h := hb1.mp h
      have e := nI_at ea ed e6
      have ce := i_c e (by omega)
      obtain ⟨L, eL, hL⟩ := mRl_ok h1 hO (169 * n + 13 * p + i) (by omega)
      have cv : w1.2 59 ((169 : Int32) * a + 13 * d + x6).toNatClampNeg = lN L := by rw [ce]; exact eL
      have hlt : v < w1.2 59 ((169 : Int32) * a + 13 * d + x6).toNatClampNeg ↔ V < L := by rw [cv, ev]; exact lL_lt (by omega) (by omega)
      conv => whnf
      refine ⟨i_in 10816 e (by omega) (by decide), ?_⟩
      conv => whnf
      refine ⟨fun h2 => ?_, fun h2 => ?_⟩
      · have h2 : ¬ V < L := fun z => lcmp_ge.mp h2 (hlt.mpr z)
        conv => whnf
        refine qq_wk S (ih (i + 1) (by omega) _ w1 (i_s e6) (mRl_tr h1 (mRl_rf (C := lq (w1.2 59 (169 * n + 13 * p + i)) ≤ lq v) ?_) (fun z y1 y2 f y3 y4 => ?_))) ⟨rfl, rfl, rfl, rfl, rfl, rfl, trivial⟩
        · rw [eL, ev, lq_lN (by omega), lq_lN (by omega)]
          omega
        · by_cases q : f = i
          · subst q; rw [z] at y2; exact y2
          · exact y1 f (by omega) y4
      · have h2 : V < L := by
          by_cases z : V < L
          · exact z
          · exact absurd (lcmp_ge.mpr (fun y => z (hlt.mp y))) h2
        conv => whnf
        refine ⟨i_in 10816 e (by omega) (by decide), ?_⟩
        conv => whnf
        refine ⟨Or.inr rfl, ?_⟩
        conv => whnf
        have key := mRl_put (k := 59) (M := 10816) (c := 169 * n + 13 * p + i) (w := w1) (A := fun c L => L = lq v ∧ ∃ f, f < 13 ∧ bt b f = true ∧ c = 169 * n + 13 * p + f) (C := True) (Or.inl rfl) (by omega) ev hV (by rw [eL, ev, lq_lN (by omega), lq_lN (by omega)]; exact h2) ⟨by rw [ev, lq_lN (by omega)], i, by omega, h, rfl⟩
        rw [← ce] at key
        refine qq_wk S (ih (i + 1) (by omega) _ _ (i_s e6) ?_) ⟨rfl, rfl, rfl, rfl, rfl, rfl, trivial⟩
        obtain ⟨a1, a2, a3, a4, a5⟩ := mRl_tr h1 key (C := False ∨ True) (fun _ _ _ => Or.inr trivial)
        refine ⟨a1, a2, a3, a4, ?_⟩
        rcases a5 with ⟨z, -⟩ | z
        · exfalso
          have l1 := mRl_le h1 (169 * n + 13 * p + i)
          have l2 : (qq_ui (qq_ul w1 59 ((169 : Int32) * a + 13 * d + x6).toNatClampNeg v) 8 39 1).2 59 (169 * n + 13 * p + i) = v := by
            show va_up w1.2 59 (vp_updL (w1.2 59) _ v) 59 _ = _
            rw [ce]
            simp [va_up, vp_updL]
          rw [z] at l2
          rw [l2, eL, ev, lq_lN (by omega), lq_lN (by omega)] at l1
          omega
        · exact Or.inr z
set_option maxHeartbeats 4000000 in
set_option maxRecDepth 100000 in
theorem bd_X8_shortens : ∀ As w P K, qq_Sat ww_sh ww_ro cs_X8_shortens (qq_at 66 kd_X8_shortens) none P K → T_X8_shortens As w P → K 0 (lv_args 0 As) [] w := by
  intro As w P K S h
  unfold T_X8_shortens at h
  split at h
  · rename_i a d b v
    obtain ⟨⟨⟨hp, hp2, hO⟩, V, ev, hV⟩, hq⟩ := h
    obtain ⟨ea, ha⟩ := qn_eq hp (by decide)
    obtain ⟨ed, hd⟩ := qn_eq hp2 (by decide)
    refine qq_go_ok S (fun pc => Nat.beq pc 3) 60 ?_
    conv => whnf
    exact qq_wk S (sh_3 S ea ha ed hd ev hV hO hq 13 0 rfl _ w rfl (mRl_rf fun f hf => absurd hf (by omega))) ⟨rfl, rfl, rfl, rfl, rfl, rfl, trivial⟩
  · exact h.elim
theorem ha_X8_shortens : ∀ As w P, T_X8_shortens As w P → qq_wd As ≤ 7 := by
  intro As w P h
  unfold T_X8_shortens at h
  split at h
  · exact Nat.le_of_ble_eq_true rfl
  · exact h.elim
theorem hv_X8_shortens : ∀ As w P, T_X8_shortens As w P → ∃ (k : Nat) (r : List Value) (fs : List Nat), As = .ref k :: r ∧ ww_sh[k]? = some (.inr (8, fs)) := by
  intro As w P h
  unfold T_X8_shortens at h
  split at h
  · exact ⟨_, _, _, rfl, rfl⟩
  · exact h.elim
set_option maxRecDepth 100000 in
theorem M_X8_shortens (l : Launch) : qq_M l ww_T ww_N vwCl ww_sh ww_ro ww_zs yX8_shortens cX8_shortens 7 none (ww_rm 1) T_X8_shortens := by
  refine qq_mk (host := RX7) (is := ki_X8_shortens) (cs := cs_X8_shortens) (by decide) ww_k1 wl_X8 ww_so ww_so2 kc_X8_shortens kv_X8_shortens kg_X8_shortens ?_ ha_X8_shortens bd_X8_shortens
  intro k i q hi hq
  match k, hi, hq with
  | 0, hi, hq => cases hi; cases hq; exact fun p e s m args below meth c D tys tC ad Q pc X hdg => qq_cV (ci := 8) X ww_gd (M_X8_at l) kf_X8_at.1 (Or.inl (ww_a6 (i := 61) (w := Cond.methodLink RX8 251 yX8_at) rfl rfl)) kf_X8_at.2.1 kf_X8_at.2.2.1 kf_X8_at.2.2.2 ⟨by decide, by decide, by decide +kernel⟩ rfl rfl rfl ⟨by decide, by decide⟩ ⟨Nat.le_refl _, Nat.le_refl _⟩ hv_X8_at hdg
  | n + 1, hi, hq => simp [cs_X8_shortens] at hq
/-- lengths of level paths, by derivations: an ENTER, a step within, a step around a procedure -/
def LDer (Ent : Nat → Nat → Prop) (Stp : Nat → Nat → Nat → Nat → Prop) (Thr : Nat → Nat → Nat → Nat → Nat → Nat → Nat → Prop) (n d e L : Nat) : Prop := ∀ Q : Nat → Nat → Nat → Nat → Prop, (∀ n d, n < 64 → Ent n d → Q n d d 0) → (∀ n d e t g a, n < 64 → t < 64 → Q n d e a → Stp n e t g → Q t d g (lcap (a + 1))) → (∀ c d e l g h r g' a b, c < 64 → l < 64 → r < 64 → Q c d e a → Thr c e l g h r g' → Q l g h b → Q r d g' (lcap (a + b + 2))) → Q n d e L
theorem LDer.ent {Ent : Nat → Nat → Prop} {Stp : Nat → Nat → Nat → Nat → Prop} {Thr : Nat → Nat → Nat → Nat → Nat → Nat → Nat → Prop} {n d : Nat} (h : Ent n d) (hn : n < 64 := by omega) : LDer Ent Stp Thr n d d 0 := fun _ q1 _ _ => q1 n d hn h
theorem LDer.stp {Ent : Nat → Nat → Prop} {Stp : Nat → Nat → Nat → Nat → Prop} {Thr : Nat → Nat → Nat → Nat → Nat → Nat → Nat → Prop} {n d e t g a : Nat} (h : LDer Ent Stp Thr n d e a) (h2 : Stp n e t g) (hn : n < 64 := by omega) (ht : t < 64 := by omega) : LDer Ent Stp Thr t d g (lcap (a + 1)) := fun Q q1 q2 q3 => q2 _ _ _ _ _ _ hn ht (h Q q1 q2 q3) h2
theorem LDer.thr {Ent : Nat → Nat → Prop} {Stp : Nat → Nat → Nat → Nat → Prop} {Thr : Nat → Nat → Nat → Nat → Nat → Nat → Nat → Prop} {c d e l g h r g' a b : Nat} (h1 : LDer Ent Stp Thr c d e a) (h2 : Thr c e l g h r g') (h3 : LDer Ent Stp Thr l g h b) (hc : c < 64 := by omega) (hl : l < 64 := by omega) (hr : r < 64 := by omega) : LDer Ent Stp Thr r d g' (lcap (a + b + 2)) := fun Q q1 q2 q3 => q3 _ _ _ _ _ _ _ _ _ _ hc hl hr (h1 Q q1 q2 q3) h2 (h3 Q q1 q2 q3)
def mEnt (w : qq_w) (n d : Nat) : Prop := d < 13 ∧ (∃ p, p < qn (w.1 8 2) ∧ w.1 39 p = nI n) ∧ mHolds w n d
def mStp (w : qq_w) (n e t g : Nat) : Prop := ((¬ w.1 43 n = 1 ∧ ¬ w.1 43 n = 9 ∧ ∃ k, k < qn (w.1 8 20) ∧ w.1 52 k = nI n ∧ w.1 53 k = nI t) ∨ (w.1 43 n = 9 ∧ w.1 49 n = nI t)) ∧ mF w n 0 e g
def mThr (w : qq_w) (c e l g h r g' : Nat) : Prop := w.1 43 c = 9 ∧ w.1 40 (qn (w.1 47 c)) = nI l ∧ w.1 49 c = nI r ∧ mF w c 1 e g ∧ mF w c 2 h g'
abbrev mLD (w : qq_w) : Nat → Nat → Nat → Nat → Prop := LDer (mEnt w) (mStp w) (mThr w)
def mLDc (w : qq_w) (c L : Nat) : Prop := ∃ n d e, d < 13 ∧ e < 13 ∧ c = 169 * n + 13 * d + e ∧ mLD w n d e L
/-- what is known is derived; what is derived from one state's length is known -/
def mSnd (w : qq_w) (D : Nat → Nat → Prop) : Prop := ∀ c L, c < 10816 → w.2 59 c = lN L → L ≤ 1000000000000 → D c L
def mClF (w : qq_w) (n d e : Nat) : Prop := ∀ a, w.2 59 (169 * n + 13 * d + e) = lN a → a ≤ 1000000000000 → (∀ t g, t < 64 → mStp w n e t g → lq (w.2 59 (169 * t + 13 * d + g)) ≤ lcap (a + 1)) ∧ ∀ l g h r g' b, l < 64 → r < 64 → mThr w n e l g h r g' → h < 13 → w.2 59 (169 * l + 13 * g + h) = lN b → b ≤ 1000000000000 → lq (w.2 59 (169 * r + 13 * d + g')) ≤ lcap (a + b + 2)
theorem mPW_eq {w w1 : qq_w} {N : Nat} (o : ∀ q, q ≠ 8 → w1.1 q = w.1 q) (o8 : ∀ j, j ≠ 39 → w1.1 8 j = w.1 8 j) (h : mPW w N) : mPW w1 N := by
  have s1 : ∀ k, k ∈ [37, 38, 41, 43, 44, 45, 46, 47, 48, 50, 51, 54] → w1.1 k = w.1 k := fun k hk => o k (fun z => by simp at hk; omega)
  obtain ⟨a1, a2, a3, a4, a5, a6⟩ := h
  refine ⟨by rw [o8 8 (by decide)]; exact a1, a2, ?_, ?_, fun n hn => mFN_congr s1 (a5 n hn), fun n p f x hn hp hf hx => a6 n p f x hn hp hf ((mTgt_congr s1 (o8 23 (by decide)) n p _ x).mp hx)⟩
  · rw [o 39 (by decide), o 40 (by decide), o 43 (by decide), o 47 (by decide), o 49 (by decide)]; exact a3
  · rw [o8 20 (by decide), o 52 (by decide), o 53 (by decide)]; exact a4
theorem mTgt_eq {w w1 : qq_w} (o : ∀ q, q ≠ 8 → w1.1 q = w.1 q) (o8 : ∀ j, j ≠ 39 → w1.1 8 j = w.1 8 j) (n p : Nat) (f x : Int32) : mTgt w1 n p f x ↔ mTgt w n p f x := mTgt_congr (fun k hk => o k (fun z => by simp at hk; omega)) (o8 23 (by decide)) n p f x
abbrev cs_X8_stepsFrom : List (Nat × qq_t) := [(4, T_X8_at), (4, T_X8_flows), (1, T_X8_far), (5, T_X8_shortens)]
def T_X8_stepsFrom : qq_t := fun As w P => match As with
  | [.ref 8, .int a, .int d, .int f] => (vp_in a 64 ∧ vp_in d 13 ∧ vp_in f 13 ∧ mPW w (qn (w.1 8 8)) ∧ qn a < qn (w.1 8 8) ∧ lOk (w.2 59) 4000000000000000000 10816 ∧ mSnd w (mLDc w)) ∧ ∀ w', mRl 59 10816 w w' (mLDc w) (mClF w (qn a) (qn d) (qn f)) → P none w'
  | _ => False
theorem mSnd_go {w w1 : qq_w} {D : Nat → Nat → Prop} {C : Prop} (h : mRl 59 10816 w w1 D C) (hs : mSnd w D) : mSnd w1 D := by
  intro c L hc e hL
  rcases h.2.2.2.1 c with z | ⟨-, -, L', z3, z4, z5⟩
  · rw [z] at e; exact hs c L hc e hL
  · rw [z4] at e
    have := (lL_eq (by omega) (by omega)).mp e
    subst this
    exact z5
theorem sf_48 {P : Option Value → qq_w → Prop} {K : Nat → qq_L → List Value → qq_w → Prop} (S : qq_Sat ww_sh ww_ro cs_X8_stepsFrom (qq_at 249 kd_X8_stepsFrom) none P K) {w : qq_w} {a d f : Int32} {v : Int64} {n dn fn V N E : Nat} (hP : mPW w N) (ea : a = nI n) (hn : n < N) (ed : d = nI dn) (hd : dn < 13) (ef : f = nI fn) (hf : fn < 13) (ev : v = lN V) (hV : V ≤ 1000000000000) (hO : lOk (w.2 59) 4000000000000000000 10816) (hD : mLD w n dn fn V) (h1' : ¬ w.1 43 n = 1) (h9' : ¬ w.1 43 n = 9) (eE : w.1 8 20 = nI E) (hE : E ≤ 120) (hed : ∀ k, k < E → ∃ a b, a < N ∧ b < N ∧ w.1 52 k = nI a ∧ w.1 53 k = nI b)
    (hq : ∀ w', mRl 59 10816 w w' (mLDc w) (∀ k, k < E → w.1 52 k = nI n → ∀ t g, t < 64 → w.1 53 k = nI t → mF w n 0 fn g → lq (w.2 59 (169 * t + 13 * dn + g)) ≤ lcap (V + 1)) → P none w') :
    ∀ m i, i + m = E → ∀ (x6 : Int32) (w1 : qq_w), x6 = nI i → mRl 59 10816 w w1 (mLDc w) (∀ k, k < i → w.1 52 k = nI n → ∀ t g, t < 64 → w.1 53 k = nI t → mF w n 0 fn g → lq (w.2 59 (169 * t + 13 * dn + g)) ≤ lcap (V + 1)) → K 48 [(0, .ref 8), (1, .int a), (2, .int d), (3, .int f), (4, .long v), (6, .int x6)] [] w1 := by
  have hN := hP.2.1
  have qa : qn a = n := by rw [ea]; exact qn_nI (by omega)
  have qd : qn d = dn := by rw [ed]; exact qn_nI (by omega)
  intro m
  induction m with
  | zero =>
    intro i hi x6 w1 e6 h1
    have : i = E := by omega
    subst this
    have eE1 : w1.1 8 20 = nI i := by rw [h1.2.1 20 (by decide)]; exact eE
    refine qq_go_ok S (fun pc => Nat.beq pc 48) 60 ?_
    conv => whnf
    refine br_t (i_ge' e6 eE1 (by omega) (by omega)) ?_
    conv => whnf
    exact hq w1 h1
  | succ m ih =>
    intro i hi x6 w1 e6 h1
    have eE1 : w1.1 8 20 = nI E := by rw [h1.2.1 20 (by decide)]; exact eE
    obtain ⟨a', b', ha', hb', ea', eb'⟩ := hed i (by omega)
    have o52 : w1.1 52 x6.toNatClampNeg = w.1 52 i := by rw [h1.1 52 (by decide), i_c e6 (by omega)]
    have o53 : w1.1 53 x6.toNatClampNeg = nI b' := by rw [h1.1 53 (by decide), i_c e6 (by omega)]; exact eb'
    have hP1 := mPW_eq h1.1 h1.2.1 hP
    refine qq_go_ok S (fun pc => Nat.beq pc 48) 60 ?_
    conv => whnf
    refine br_f (i_lt' e6 eE1 (by omega) (by omega)) ?_
    conv => whnf
    refine ⟨i_in 120 e6 (by omega) (by decide), ?_⟩
    conv => whnf
    refine ⟨fun h => ?_, fun h => ?_⟩
    · have h : ¬ w1.1 52 x6.toNatClampNeg = a := h
      rw [o52, ea] at h
      conv => whnf
      refine qq_wk S (ih (i + 1) (by omega) _ w1 (i_s e6) (mRl_mono h1 (fun _ _ z => z) (fun z k y1 y2 => ?_))) ⟨rfl, rfl, rfl, rfl, rfl, rfl, trivial⟩
      by_cases q : k = i
      · subst q; exact absurd y2 h
      · exact z k (by omega) y2
    · have h : w1.1 52 x6.toNatClampNeg = a := h
      rw [o52, ea] at h
      conv => whnf
      refine ⟨i_in 120 e6 (by omega) (by decide), ?_⟩
      conv => whnf
      refine ⟨⟨i_in 64 ea (by omega) (by decide), i_in 3 (k := 0) rfl (by omega) (by decide), i_in 13 ef hf (by decide), by rw [qa]; exact hP1.2.2.2.2.1 n hn⟩, fun x hx => ?_⟩
      have hx : mTgt w n 0 (nI fn) x := by
        have := (mTgt_eq h1.1 h1.2.1 _ _ _ _).mp hx
        rw [qa, ef] at this
        exact this
      conv => whnf
      refine ⟨trivial, ?_⟩
      conv => whnf
      have el : lfar (v + 1) = lN (lcap (V + 1)) := by rw [ev, lN_1]; exact lfar_lN (by omega)
      refine ⟨⟨⟨i_in 64 o53 (by omega) (by decide), i_in 13 ed hd (by decide), mRl_ok h1 hO⟩, lcap (V + 1), el, lcap_le _⟩, fun w2 h2 => ?_⟩
      conv => whnf
      have qb : qn ((120, w1.1 53).2 x6.toNatClampNeg) = b' := by
        show qn (w1.1 53 x6.toNatClampNeg) = b'
        rw [o53]; exact qn_nI (by omega)
      rw [qb, qd] at h2
      have hst : ∀ g, mF w n 0 fn g → mStp w n fn b' g := fun g z => ⟨Or.inl ⟨h1', h9', i, by rw [eE, qn_nI (by omega)]; omega, h, eb'⟩, z⟩
      refine qq_wk S (ih (i + 1) (by omega) _ w2 (i_s e6) (mRl_tr h1 (mRl_mono h2 (A' := mLDc w) (fun c L z => ?_) (fun z => z)) (fun z y1 y2 k y3 y4 t g y5 y6 y7 => ?_))) ⟨rfl, rfl, rfl, rfl, rfl, rfl, trivial⟩
      · obtain ⟨z1, g, z2, z3, z4⟩ := z
        rw [el, lq_lN (by have := lcap_le (V + 1); omega)] at z1
        subst z1
        exact ⟨b', dn, g, hd, z2, z4, LDer.stp hD (hst g ((mF_iff hx).mp z3))⟩
      · by_cases q : k = i
        · subst q
          have : t = b' := (nI_eq (by omega) (by omega)).mp (y6.symm.trans eb')
          subst this
          have hg : g < 13 := by
            obtain ⟨x', hx', hb⟩ := y7
            exact fs_lt (hP.2.2.2.2.2 n 0 fn x' hn (by omega) hf hx') hb
          have := y2 g hg ((mF_iff hx).mpr y7)
          rw [z, el, lq_lN (by have := lcap_le (V + 1); omega)] at this
          exact this
        · exact y1 k (by omega) y4 t g y5 y6 y7
/-- around a procedure -/
def mThC (w : qq_w) (n dn fn V r l g i : Nat) : Prop := ∀ h, h < i → mF w n 1 fn g → ∀ b g', w.2 59 (169 * l + 13 * g + h) = lN b → b ≤ 1000000000000 → mF w n 2 h g' → lq (w.2 59 (169 * r + 13 * dn + g')) ≤ lcap (V + b + 2)
theorem sf_161 {P : Option Value → qq_w → Prop} {K : Nat → qq_L → List Value → qq_w → Prop} (S : qq_Sat ww_sh ww_ro cs_X8_stepsFrom (qq_at 249 kd_X8_stepsFrom) none P K) {w : qq_w} {a d f x6 x7 x8 : Int32} {v : Int64} {n dn fn V N r l g p : Nat} (hP : mPW w N) (ea : a = nI n) (hn : n < N) (ed : d = nI dn) (hd : dn < 13) (ef : f = nI fn) (hf : fn < 13) (ev : v = lN V) (hV : V ≤ 1000000000000) (hO : lOk (w.2 59) 4000000000000000000 10816) (hS : mSnd w (mLDc w)) (hD : mLD w n dn fn V) (h9 : w.1 43 n = 9) (h6 : mTgt w n 1 (nI fn) x6) (e7 : x7 = nI l) (hl : l < N) (e8 : x8 = nI g) (hg : g < 13) (ep : w.1 47 n = nI p) (hp : p < 8) (el' : w.1 40 p = nI l) (er : w.1 49 n = nI r) (hr : r < N) {C0 : Prop}
    (hk : ∀ w1, mRl 59 10816 w w1 (mLDc w) (C0 ∧ mThC w n dn fn V r l g 13) → K 242 [(0, .ref 8), (1, .int a), (2, .int d), (3, .int f), (4, .long v), (6, .int x6), (7, .int x7), (8, .int x8)] [] w1) :
    ∀ m i, i + m = 13 → ∀ (x9 : Int32) (w1 : qq_w), x9 = nI i → mRl 59 10816 w w1 (mLDc w) (C0 ∧ mThC w n dn fn V r l g i) → K 161 [(0, .ref 8), (1, .int a), (2, .int d), (3, .int f), (4, .long v), (6, .int x6), (7, .int x7), (8, .int x8), (9, .int x9)] [] w1 := by
  have hN := hP.2.1
  have qa : qn a = n := by rw [ea]; exact qn_nI (by omega)
  have qd : qn d = dn := by rw [ed]; exact qn_nI (by omega)
  have hb1 : (x6 >>> (x8 &&& 31)) &&& 1 = 1 ↔ mF w n 1 fn g := by rw [e8, ← mF_iff h6]; exact b_has1 (by omega) _
  intro m
  induction m with
  | zero =>
    intro i hi x9 w1 e9 h1
    have : i = 13 := by omega
    subst this
    refine qq_go_ok S (fun pc => Nat.beq pc 161 || Nat.beq pc 242) 60 ?_
    conv => whnf
    refine br_t (i_ge 13 e9 (by omega) (by omega)) ?_
    conv => whnf
    exact qq_wk S (hk w1 h1) ⟨rfl, rfl, rfl, rfl, rfl, rfl, rfl, rfl, trivial⟩
  | succ m ih =>
    intro i hi x9 w1 e9 h1
    have hP1 := mPW_eq h1.1 h1.2.1 hP
    refine qq_go_ok S (fun pc => Nat.beq pc 161 || Nat.beq pc 242) 80 ?_
    conv => whnf
    refine br_f (i_nge 13 e9 (by omega) (by omega)) ?_
    conv => whnf
    refine ⟨fun h => ?_, fun h => ?_⟩
    · have h : ¬ mF w n 1 fn g := fun z => h (hb1.mpr z)
      conv => whnf
      exact qq_wk S (hk w1 (mRl_mono h1 (fun _ _ z => z) (fun z => ⟨z.1, fun _ _ y => absurd y h⟩))) ⟨rfl, rfl, rfl, rfl, rfl, rfl, rfl, rfl, trivial⟩
    · have h := hb1.mp h
      have e := nI_at e7 e8 e9
      have ce := i_c e (by omega)
      obtain ⟨b, eb, hb⟩ := mRl_ok h1 hO (169 * l + 13 * g + i) (by omega)
      have cv : w1.2 59 ((169 : Int32) * x7 + 13 * x8 + x9).toNatClampNeg = lN b := by rw [ce]; exact eb
      have cnv : w1.2 59 ((169 : Int32) * x7 + 13 * x8 + x9).toNatClampNeg < 4000000000000000000 ↔ b < 4000000000000000000 := by rw [cv]; exact lL_lt (b := 4000000000000000000) (by omega) (by omega)
      conv => whnf
      refine ⟨i_in 10816 e (by omega) (by decide), ?_⟩
      conv => whnf
      refine ⟨fun h2 => ?_, fun h2 => ?_⟩
      · have h2 : ¬ b < 4000000000000000000 := fun z => lcmp_ge.mp h2 (cnv.mpr z)
        conv => whnf
        refine qq_wk S (ih (i + 1) (by omega) _ w1 (i_s e9) (mRl_tr h1 (mRl_rf (C := True) trivial) (fun z y1 _ => ⟨y1.1, fun q y2 y3 b' g' y4 y5 y6 => ?_⟩))) ⟨rfl, rfl, rfl, rfl, rfl, rfl, rfl, rfl, rfl, trivial⟩
        by_cases qq : q = i
        · subst qq
          rw [← z, eb] at y4
          have := (lL_eq (by omega) (by omega)).mp y4
          omega
        · exact y1.2 q (by omega) y3 b' g' y4 y5 y6
      · have h2 : b < 4000000000000000000 := by
          by_cases z : b < 4000000000000000000
          · exact z
          · exact absurd (lcmp_ge.mpr (fun y => z (cnv.mp y))) h2
        have hb : b ≤ 1000000000000 := by omega
        conv => whnf
        refine ⟨i_in 64 ea (by omega) (by decide), ?_⟩
        conv => whnf
        refine ⟨⟨i_in 64 ea (by omega) (by decide), i_in 3 (k := 2) rfl (by omega) (by decide), i_in 13 e9 (by omega) (by decide), by rw [qa]; exact hP1.2.2.2.2.1 n hn⟩, fun x hx => ?_⟩
        have hx : mTgt w n 2 (nI i) x := by
          have := (mTgt_eq h1.1 h1.2.1 _ _ _ _).mp hx
          rw [qa, e9] at this
          exact this
        conv => whnf
        refine ⟨trivial, ?_⟩
        conv => whnf
        have el : lfar (v + w1.2 59 ((169 : Int32) * x7 + 13 * x8 + x9).toNatClampNeg + 2) = lN (lcap (V + b + 2)) := by
          have : v + w1.2 59 ((169 : Int32) * x7 + 13 * x8 + x9).toNatClampNeg + 2 = lN (V + b + 2) := by
            rw [cv, ev, lN_add]
            exact lN_add (V + b) 2
          rw [this]
          exact lfar_lN (by omega)
        have o49 : w1.1 49 a.toNatClampNeg = nI r := by rw [h1.1 49 (by decide), i_c ea (by omega)]; exact er
        refine ⟨⟨⟨i_in 64 o49 (by omega) (by decide), i_in 13 ed hd (by decide), mRl_ok h1 hO⟩, lcap (V + b + 2), el, lcap_le _⟩, fun w2 h2 => ?_⟩
        conv => whnf
        have qr : qn ((64, w1.1 49).2 a.toNatClampNeg) = r := by
          show qn (w1.1 49 a.toNatClampNeg) = r
          rw [o49]; exact qn_nI (by omega)
        rw [qr, qd] at h2
        have hlc := lcap_le (V + b + 2)
        refine qq_wk S (ih (i + 1) (by omega) _ w2 (i_s e9) (mRl_tr h1 (mRl_mono h2 (A' := mLDc w) (fun c L z => ?_) (fun z => z)) (fun z y1 y2 => ⟨y1.1, fun q y3 y4 b' g' y5 y6 y7 => ?_⟩))) ⟨rfl, rfl, rfl, rfl, rfl, rfl, rfl, rfl, rfl, trivial⟩
        · obtain ⟨z1, g', z2, z3, z4⟩ := z
          have z1 : L = lq (lfar (v + w1.2 59 ((169 : Int32) * x7 + 13 * x8 + x9).toNatClampNeg + 2)) := z1
          rw [el, lq_lN (by omega)] at z1
          subst z1
          refine ⟨r, dn, g', hd, z2, z4, ?_⟩
          obtain ⟨n', d', e', q1, q2, q3, q4⟩ := mSnd_go h1 hS (169 * l + 13 * g + i) b (by omega) eb hb
          have : n' = l := by omega
          subst this
          have : d' = g := by omega
          subst this
          have : e' = i := by omega
          subst this
          exact LDer.thr hD ⟨h9, by rw [ep, qn_nI (by omega)]; exact el', er, h, (mF_iff hx).mp z3⟩ q4
        · by_cases qq : q = i
          · subst qq
            rw [← z, eb] at y5
            have := (lL_eq (by omega) (by omega)).mp y5
            subst this
            have hg' : g' < 13 := by
              obtain ⟨x', hx', hb'⟩ := y7
              exact fs_lt (hP.2.2.2.2.2 n 2 q x' hn (by omega) (by omega) hx') hb'
            have y2 : lq (w1.2 59 (169 * r + 13 * dn + g')) ≤ lq (lfar (v + w1.2 59 ((169 : Int32) * x7 + 13 * x8 + x9).toNatClampNeg + 2)) := y2 g' hg' ((mF_iff hx).mpr y7)
            rw [el, lq_lN (by omega), z] at y2
            exact y2
          · exact y1.2 q (by omega) y4 b' g' y5 y6 y7
theorem sf_151 {P : Option Value → qq_w → Prop} {K : Nat → qq_L → List Value → qq_w → Prop} (S : qq_Sat ww_sh ww_ro cs_X8_stepsFrom (qq_at 249 kd_X8_stepsFrom) none P K) {w : qq_w} {a d f x6 x7 : Int32} {v : Int64} {n dn fn V N r l p : Nat} (hP : mPW w N) (ea : a = nI n) (hn : n < N) (ed : d = nI dn) (hd : dn < 13) (ef : f = nI fn) (hf : fn < 13) (ev : v = lN V) (hV : V ≤ 1000000000000) (hO : lOk (w.2 59) 4000000000000000000 10816) (hS : mSnd w (mLDc w)) (hD : mLD w n dn fn V) (h9 : w.1 43 n = 9) (h6 : mTgt w n 1 (nI fn) x6) (e7 : x7 = nI l) (hl : l < N) (ep : w.1 47 n = nI p) (hp : p < 8) (el' : w.1 40 p = nI l) (er : w.1 49 n = nI r) (hr : r < N) {C0 : Prop}
    (hq : ∀ w1, mRl 59 10816 w w1 (mLDc w) (C0 ∧ ∀ g, g < 13 → mThC w n dn fn V r l g 13) → P none w1) :
    ∀ m i, i + m = 13 → ∀ (x8 : Int32) (w1 : qq_w), x8 = nI i → mRl 59 10816 w w1 (mLDc w) (C0 ∧ ∀ g, g < i → mThC w n dn fn V r l g 13) → K 151 [(0, .ref 8), (1, .int a), (2, .int d), (3, .int f), (4, .long v), (6, .int x6), (7, .int x7), (8, .int x8)] [] w1 := by
  intro m
  induction m with
  | zero =>
    intro i hi x8 w1 e8 h1
    have : i = 13 := by omega
    subst this
    refine qq_go_ok S (fun pc => Nat.beq pc 151) 60 ?_
    conv => whnf
    refine br_t (i_ge 13 e8 (by omega) (by omega)) ?_
    conv => whnf
    exact hq w1 h1
  | succ m ih =>
    intro i hi x8 w1 e8 h1
    refine qq_go_ok S (fun pc => Nat.beq pc 161) 60 ?_
    conv => whnf
    refine br_f (i_nge 13 e8 (by omega) (by omega)) ?_
    conv => whnf
    refine qq_wk S (sf_161 S (C0 := C0 ∧ ∀ g, g < i → mThC w n dn fn V r l g 13) hP ea hn ed hd ef hf ev hV hO hS hD h9 h6 e7 hl e8 (by omega) ep hp el' er hr (fun w2 h2 => ?_) 13 0 rfl _ w1 rfl (mRl_mono h1 (fun _ _ z => z) (fun z => ⟨z, fun h hh => absurd hh (by omega)⟩))) ⟨rfl, rfl, rfl, rfl, rfl, rfl, rfl, rfl, rfl, trivial⟩
    refine qq_go_ok S (fun pc => Nat.beq pc 151) 60 ?_
    conv => whnf
    refine qq_wk S (ih (i + 1) (by omega) _ w2 (i_s e8) (mRl_mono h2 (fun _ _ z => z) (fun z => ⟨z.1.1, fun g hg => ?_⟩))) ⟨rfl, rfl, rfl, rfl, rfl, rfl, rfl, rfl, trivial⟩
    by_cases q : g = i
    · subst q; exact z.2
    · exact z.1.2 g (by omega)
set_option maxHeartbeats 4000000 in
set_option maxRecDepth 100000 in
theorem bd_X8_stepsFrom : ∀ As w P K, qq_Sat ww_sh ww_ro cs_X8_stepsFrom (qq_at 249 kd_X8_stepsFrom) none P K → T_X8_stepsFrom As w P → K 0 (lv_args 0 As) [] w := by
  intro As w P K S h
  unfold T_X8_stepsFrom at h
  split at h
  · rename_i a d f
    obtain ⟨⟨hp, hp2, hp3, hP, hn, hO, hS⟩, hq⟩ := h
    obtain ⟨ea, ha⟩ := qn_eq hp (by decide)
    obtain ⟨ed, hd⟩ := qn_eq hp2 (by decide)
    obtain ⟨ef, hf⟩ := qn_eq hp3 (by decide)
    have e := nI_at ea ed ef
    have ce := i_c e (by omega)
    obtain ⟨V, eV, hV⟩ := hO (169 * qn a + 13 * qn d + qn f) (by omega)
    have cv : w.2 59 ((169 : Int32) * a + 13 * d + f).toNatClampNeg = lN V := by rw [ce]; exact eV
    have cun : w.2 59 ((169 : Int32) * a + 13 * d + f).toNatClampNeg = 4000000000000000000 ↔ V = 4000000000000000000 := by rw [cv]; exact lL_eq (b := 4000000000000000000) (by omega) (by omega)
    have ck : w.1 43 a.toNatClampNeg = w.1 43 (qn a) := rfl
    refine qq_go_ok S (fun pc => Nat.beq pc 48 || Nat.beq pc 151) 60 ?_
    conv => whnf
    refine ⟨i_in 10816 e (by omega) (by decide), ?_⟩
    conv => whnf
    refine ⟨fun h => ?_, fun h => ?_⟩
    · have h : V = 4000000000000000000 := cun.mp (lcmp0.mp h)
      conv => whnf
      refine hq w (mRl_rf fun a' z1 z2 => ?_)
      rw [eV] at z1
      have := (lL_eq (by omega) (by omega)).mp z1
      omega
    have hV : V ≤ 1000000000000 := by
      rcases hV with z | z
      · exact z
      · exact absurd (lcmp0.mpr (cun.mpr z)) h
    have hD : mLD w (qn a) (qn d) (qn f) V := by
      obtain ⟨n', d', e', q1, q2, q3, q4⟩ := hS _ V (by omega) eV hV
      have : n' = qn a := by omega
      subst this
      have : d' = qn d := by omega
      subst this
      have : e' = qn f := by omega
      subst this
      exact q4
    conv => whnf
    refine ⟨hp, ?_⟩
    conv => whnf
    refine ⟨fun h1 => ?_, fun h1 => ?_⟩
    · have h1 : ¬ w.1 43 (qn a) = 1 := h1
      conv => whnf
      refine ⟨hp, ?_⟩
      conv => whnf
      refine ⟨fun h9 => ?_, fun h9 => ?_⟩
      · have h9 : w.1 43 (qn a) = 9 := h9
        obtain ⟨p, r, l, q1, q2, q3, q4, q5, q6, q7, q8, q9, q10⟩ := hP.2.2.1 _ hn h9
        have hN := hP.2.1
        conv => whnf
        refine ⟨hp, ?_⟩
        conv => whnf
        refine ⟨⟨hp, i_in 3 (k := 0) rfl (by omega) (by decide), hp3, hP.2.2.2.2.1 _ hn⟩, fun x hx => ?_⟩
        have hx : mTgt w (qn a) 0 (nI (qn f)) x := by rw [← ef]; exact hx
        conv => whnf
        refine ⟨trivial, ?_⟩
        conv => whnf
        have el : lfar (w.2 59 ((169 : Int32) * a + 13 * d + f).toNatClampNeg + 1) = lN (lcap (V + 1)) := by rw [cv, lN_1]; exact lfar_lN (by omega)
        have o49 : w.1 49 a.toNatClampNeg = nI r := q5
        have hlc := lcap_le (V + 1)
        refine ⟨⟨⟨i_in 64 o49 (by omega) (by decide), hp2, hO⟩, lcap (V + 1), el, lcap_le _⟩, fun w1 h1' => ?_⟩
        have qr : qn ((64, w.1 49).2 a.toNatClampNeg) = r := by
          show qn (w.1 49 a.toNatClampNeg) = r
          rw [o49]; exact qn_nI (by omega)
        rw [qr] at h1'
        have h1' : mRl 59 10816 w w1 (fun c L => L = lq (lfar (w.2 59 ((169 : Int32) * a + 13 * d + f).toNatClampNeg + 1)) ∧ ∃ f, f < 13 ∧ bt x f = true ∧ c = 169 * r + 13 * qn d + f) (∀ f', f' < 13 → bt x f' = true → lq (w.2 59 (169 * r + 13 * qn d + f')) ≤ lq (lfar (w.2 59 ((169 : Int32) * a + 13 * d + f).toNatClampNeg + 1))) := h1'
        rw [el, lq_lN (by omega)] at h1'
        have hst : ∀ g, mF w (qn a) 0 (qn f) g → mStp w (qn a) (qn f) r g := fun g z => ⟨Or.inr ⟨h9, q5⟩, z⟩
        have h1'' : mRl 59 10816 w w1 (mLDc w) (∀ g, mF w (qn a) 0 (qn f) g → lq (w.2 59 (169 * r + 13 * qn d + g)) ≤ lcap (V + 1)) := by
          refine mRl_mono h1' (fun c L z => ?_) (fun z g y => ?_)
          · obtain ⟨z1, g, z2, z3, z4⟩ := z
            subst z1
            exact ⟨r, qn d, g, hd, z2, z4, LDer.stp hD (hst g ((mF_iff hx).mp z3))⟩
          · have hg : g < 13 := by
              obtain ⟨x', hx', hb⟩ := y
              exact fs_lt (hP.2.2.2.2.2 _ 0 _ x' hn (by omega) hf hx') hb
            exact z g hg ((mF_iff hx).mpr y)
        have hP1 := mPW_eq h1''.1 h1''.2.1 hP
        conv => whnf
        refine ⟨⟨hp, i_in 3 (k := 1) rfl (by omega) (by decide), hp3, hP1.2.2.2.2.1 _ hn⟩, fun y hy => ?_⟩
        have hy : mTgt w (qn a) 1 (nI (qn f)) y := by
          have := (mTgt_eq h1''.1 h1''.2.1 _ _ _ _).mp hy
          rw [← ef]
          exact this
        conv => whnf
        refine ⟨hp, ?_⟩
        conv => whnf
        have o47 : w1.1 47 a.toNatClampNeg = nI p := by rw [h1''.1 47 (by decide)]; exact q4
        refine ⟨i_in 8 o47 (by omega) (by decide), ?_⟩
        conv => whnf
        have o40 : w1.1 40 (w1.1 47 a.toNatClampNeg).toNatClampNeg = nI (l + 1) := by rw [i_c o47 (by omega), h1''.1 40 (by decide)]; exact q7
        refine qq_wk S (sf_151 S (x7 := nI (l + 1)) (C0 := ∀ g, mF w (qn a) 0 (qn f) g → lq (w.2 59 (169 * r + 13 * qn d + g)) ≤ lcap (V + 1)) hP ea hn ed hd ef hf cv hV hO hS hD h9 hy rfl q3 q4 q1 q7 q5 q2 (fun w' h' => hq w' (mRl_mono h' (fun _ _ z => z) (fun z a' y1 y2 => ?_))) 13 0 rfl _ w1 rfl (mRl_mono h1'' (fun _ _ z => z) (fun z => ⟨z, fun g hg => absurd hg (by omega)⟩))) ⟨rfl, rfl, rfl, rfl, rfl, rfl, ?_, rfl, trivial⟩
        · rw [eV] at y1
          have := (lL_eq (by omega) (by omega)).mp y1
          subst this
          refine ⟨fun t g y3 y4 => ?_, fun l' g hh r' g' b y3 y3' y4 y5 y6 y7 => ?_⟩
          · obtain ⟨⟨-, y, -⟩ | ⟨-, y⟩, y6⟩ := y4
            · exact absurd h9 y
            · have : t = r := (nI_eq (by omega) (by omega)).mp (y.symm.trans q5)
              subst this
              exact z.1 g y6
          · obtain ⟨y8, y9, y10, y11, y12⟩ := y4
            rw [q4, qn_nI (by omega), q7] at y9
            have : l' = l + 1 := (nI_eq (by omega) (by omega)).mp y9.symm
            subst this
            have : r' = r := (nI_eq (by omega) (by omega)).mp (y10.symm.trans q5)
            subst this
            have hg : g < 13 := by
              obtain ⟨x', hx', hb⟩ := y11
              exact fs_lt (hP.2.2.2.2.2 _ 1 _ x' hn (by omega) hf hx') hb
            exact z.2 g hg hh y5 y11 b g' y6 y7 y12
        · show some (Value.int (w1.1 40 (w1.1 47 a.toNatClampNeg).toNatClampNeg)) = _
          rw [o40]
      · have h9 : ¬ w.1 43 (qn a) = 9 := h9
        conv => whnf
        obtain ⟨E, hE, eE, hed⟩ := hP.2.2.2.1
        refine qq_wk S (sf_48 S hP ea hn ed hd ef hf cv hV hO hD h1 h9 eE hE hed (fun w' h' => hq w' (mRl_mono h' (fun _ _ z => z) (fun z a' y1 y2 => ?_))) E 0 (Nat.zero_add _) _ w rfl (mRl_rf fun k hk => absurd hk (by omega))) ⟨rfl, rfl, rfl, rfl, rfl, rfl, trivial⟩
        rw [eV] at y1
        have := (lL_eq (by omega) (by omega)).mp y1
        subst this
        refine ⟨fun t g y3 y4 => ?_, fun l' g h' r' g' b y3 y3' y4 => absurd y4.1 h9⟩
        obtain ⟨⟨-, -, k, y5, y6, y7⟩ | ⟨y, -⟩, y8⟩ := y4
        · rw [eE, qn_nI (by omega)] at y5
          exact z k y5 y6 t g y3 y7 y8
        · exact absurd y h9
    · have h1 : w.1 43 (qn a) = 1 := h1
      conv => whnf
      refine hq w (mRl_rf fun a' z1 z2 => ⟨fun t g z3 z4 => ?_, fun l g h' r g' b z3 z3' z4 => ?_⟩)
      · obtain ⟨⟨z, -⟩ | ⟨z, -⟩, -⟩ := z4
        · exact absurd h1 z
        · rw [h1] at z; exact absurd z (by decide)
      · have := z4.1
        rw [h1] at this
        exact absurd this (by decide)
  · exact h.elim
theorem ha_X8_stepsFrom : ∀ As w P, T_X8_stepsFrom As w P → qq_wd As ≤ 12 := by
  intro As w P h
  unfold T_X8_stepsFrom at h
  split at h
  · exact Nat.le_of_ble_eq_true rfl
  · exact h.elim
theorem hv_X8_stepsFrom : ∀ As w P, T_X8_stepsFrom As w P → ∃ (k : Nat) (r : List Value) (fs : List Nat), As = .ref k :: r ∧ ww_sh[k]? = some (.inr (8, fs)) := by
  intro As w P h
  unfold T_X8_stepsFrom at h
  split at h
  · exact ⟨_, _, _, rfl, rfl⟩
  · exact h.elim
set_option maxRecDepth 100000 in
theorem M_X8_stepsFrom (l : Launch) : qq_M l ww_T ww_N vwCl ww_sh ww_ro ww_zs yX8_stepsFrom cX8_stepsFrom 12 none (ww_rm 3) T_X8_stepsFrom := by
  refine qq_mk (host := RX7) (is := ki_X8_stepsFrom) (cs := cs_X8_stepsFrom) (by decide) ww_k1 wl_X8 ww_so ww_so2 kc_X8_stepsFrom kv_X8_stepsFrom kg_X8_stepsFrom ?_ ha_X8_stepsFrom bd_X8_stepsFrom
  intro k i q hi hq
  match k, hi, hq with
  | 0, hi, hq => cases hi; cases hq; exact fun p e s m args below meth c D tys tC ad Q pc X hdg => qq_cV (ci := 8) X ww_gd (M_X8_at l) kf_X8_at.1 (Or.inl (ww_a6 (i := 61) (w := Cond.methodLink RX8 251 yX8_at) rfl rfl)) kf_X8_at.2.1 kf_X8_at.2.2.1 kf_X8_at.2.2.2 ⟨by decide, by decide, by decide +kernel⟩ rfl rfl rfl ⟨by decide, by decide⟩ ⟨Nat.le_refl _, Nat.le_refl _⟩ hv_X8_at hdg
  | 1, hi, hq => cases hi; cases hq; exact fun p e s m args below meth c D tys tC ad Q pc X hdg => qq_cV (ci := 8) X ww_gd (M_X8_flows l) kf_X8_flows.1 (Or.inl (ww_a5 (i := 187) (w := Cond.methodLink RX8 184 yX8_flows) rfl rfl)) kf_X8_flows.2.1 kf_X8_flows.2.2.1 kf_X8_flows.2.2.2 ⟨by decide, by decide, by decide +kernel⟩ rfl rfl rfl ⟨by decide, by decide⟩ ⟨Nat.le_refl _, Nat.le_refl _⟩ hv_X8_flows hdg
  | 2, hi, hq => cases hi; cases hq; exact fun p e s m args below meth c D tys tC ad Q pc X hdg => qq_cS X ww_gd (M_X8_far l) kf_X8_far.1 (Or.inl (ww_a6 (i := 69) (w := Cond.methodLink RX8 259 yX8_far) rfl rfl)) kf_X8_far.2.1 kf_X8_far.2.2 ⟨by decide, by decide, by decide +kernel⟩ rfl rfl ⟨by decide, by decide⟩ ⟨Nat.le_refl _, Nat.le_refl _⟩ hdg
  | 3, hi, hq => cases hi; cases hq; exact fun p e s m args below meth c D tys tC ad Q pc X hdg => qq_cV (ci := 8) X ww_gd (M_X8_shortens l) kf_X8_shortens.1 (Or.inl (ww_a6 (i := 73) (w := Cond.methodLink RX8 263 yX8_shortens) rfl rfl)) kf_X8_shortens.2.1 kf_X8_shortens.2.2.1 kf_X8_shortens.2.2.2 ⟨by decide, by decide, by decide +kernel⟩ rfl rfl rfl ⟨by decide, by decide⟩ ⟨Nat.le_refl _, Nat.le_refl _⟩ hv_X8_shortens hdg
  | n + 4, hi, hq => simp [cs_X8_stepsFrom] at hq
