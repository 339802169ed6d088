theorem br_nt {c A B : Prop} (h : ¬ c) (a : A) : (¬ c → A) ∧ (c → B) := ⟨fun _ => a, fun z => absurd z h⟩
theorem br_nf {c A B : Prop} (h : c) (b : B) : (¬ c → A) ∧ (c → B) := ⟨fun z => absurd h z, fun _ => b⟩
theorem or0 (x : Int32) : x ||| 0 = x := b_ext fun i _ => by rw [b_or, b_0, Bool.or_false]
theorem zor (x : Int32) : 0 ||| x = x := b_ext fun i _ => by rw [b_or, b_0, Bool.false_or]
/-- what a node is told to be: a cell of its row -/
abbrev cX (w : qq_w) (n j : Nat) : Int32 := w.1 13 (10 * n + j)
theorem under3 {k : Nat} (hk : k < 11) : qq_under k 3 ↔ 3 ≤ k ∧ k ≤ 7 := by
  unfold qq_under
  have e : ((3 : Int32) = nI k) ↔ k = 3 := by
    rw [show (3 : Int32) = nI 3 from rfl, nI_eq (by omega) (by omega)]
    exact ⟨Eq.symm, Eq.symm⟩
  rw [e]
  constructor
  · rintro (z | ⟨-, z⟩ | ⟨z, -⟩)
    · omega
    · omega
    · exact absurd z (by decide)
  · intro z
    by_cases q : k = 3
    · exact Or.inl q
    · exact Or.inr (Or.inl ⟨rfl, by omega⟩)
/-- the facts to which a fact goes by a STATEMENT, ACROSS a CALL, BACK to its RETURN -/
def cStmt (w : qq_w) (n : Nat) (f : Int32) : Int32 := if 3 ≤ qn (cX w n 1) ∧ qn (cX w n 1) ≤ 7 then (if f = cX w n 2 then (0 : Int32) else (1 : Int32) <<< (f &&& 31)) ||| (if (f = cX w n 3 ∨ f = cX w n 4) ∨ (cX w n 1 = 6 ∧ w.1 2 2 = 0 ∧ f = 0) then 1 <<< (cX w n 2 &&& 31) else 0) else 1 <<< (f &&& 31)
def cAcross (w : qq_w) (c : Nat) (f : Int32) : Int32 := if f = 0 ∨ (¬ f ≤ 4 ∧ ¬ f = cX w c 6) then 1 <<< (f &&& 31) else 0
def cBack (w : qq_w) (c : Nat) (f : Int32) : Int32 := (if ¬ 4 < f ∧ ¬ f = cX w c 6 then 1 <<< (f &&& 31) else 0) ||| (if ¬ cX w c 6 = -5 ∧ (f = w.1 11 (qn (cX w c 5)) ∨ (w.1 2 2 = 1 ∧ w.1 11 (qn (cX w c 5)) = -5 ∧ f = 0)) then 1 <<< (cX w c 6 &&& 31) else 0)
abbrev cs_X1_ofStatement : List (Nat × qq_t) := [(3, T_X3_of), (2, T_X3_isUnder)]
def T_X1_ofStatement : qq_t := fun As w P => match As with
  | [.ref 2, .int a, .int f] => (vp_in a 64 ∧ vp_in (cX w (qn a) 1) 11) ∧ P (some (.int (cStmt w (qn a) f))) w
  | _ => False
theorem st_103 {P : Option Value → qq_w → Prop} {K : Nat → qq_L → List Value → qq_w → Prop} (S : qq_Sat ww_sh ww_ro cs_X1_ofStatement (qq_at 126 kd_X1_ofStatement) (some .int) P K) {w : qq_w} {x4 x5 x6 x7 : Int32} (h6 : x6 = 0 ∨ x6 = 1) (h7 : x7 = 0 ∨ x7 = 1)
    (h1 : (x6 = 1 ∨ x7 = 1) → P (some (.int (x5 ||| 1 <<< (x4 &&& 31)))) w) (h0 : x6 = 0 → x7 = 0 → P (some (.int x5)) w) : K 103 [(4, .int x4), (5, .int x5), (6, .int x6), (7, .int x7)] [] w := by
  refine qq_go_ok S (fun _ => false) 40 ?_
  conv => whnf
  refine ⟨fun h => ?_, fun h => ?_⟩
  · conv => whnf
    exact h1 (h6.elim (fun z => absurd z h) Or.inl)
  conv => whnf
  refine ⟨fun h' => ?_, fun h' => ?_⟩
  · conv => whnf
    exact h0 h h'
  · conv => whnf
    exact h1 (h7.elim (fun z => absurd z h') Or.inr)
theorem st_79 {P : Option Value → qq_w → Prop} {K : Nat → qq_L → List Value → qq_w → Prop} (S : qq_Sat ww_sh ww_ro cs_X1_ofStatement (qq_at 126 kd_X1_ofStatement) (some .int) P K) {w : qq_w} {f x3 x4 x5 x6 : Int32} (h6 : x6 = 0 ∨ x6 = 1)
    (h1 : (x6 = 1 ∨ (x3 = 6 ∧ w.1 2 2 = 0 ∧ f = 0)) → P (some (.int (x5 ||| 1 <<< (x4 &&& 31)))) w) (h0 : x6 = 0 → ¬ (x3 = 6 ∧ w.1 2 2 = 0 ∧ f = 0) → P (some (.int x5)) w) : K 79 [(0, .ref 2), (2, .int f), (3, .int x3), (4, .int x4), (5, .int x5), (6, .int x6)] [] w := by
  have no : ¬ (x3 = 6 ∧ w.1 2 2 = 0 ∧ f = 0) → K 103 [(4, .int x4), (5, .int x5), (6, .int x6), (7, .int 0)] [] w := fun z => st_103 S h6 (Or.inl rfl) (fun q => h1 (Or.inl (q.elim id (fun y => absurd y (by decide))))) (fun q _ => h0 q z)
  refine qq_go_ok S (fun pc => Nat.beq pc 103) 40 ?_
  conv => whnf
  refine ⟨fun h => ?_, fun h => ?_⟩
  · conv => whnf
    exact qq_wk S (no fun z => h z.1) ⟨rfl, rfl, rfl, rfl, trivial⟩
  conv => whnf
  refine ⟨fun h' => ?_, fun h' => ?_⟩
  · conv => whnf
    exact qq_wk S (no fun z => h' z.2.1) ⟨rfl, rfl, rfl, rfl, trivial⟩
  conv => whnf
  refine ⟨fun h2 => ?_, fun h2 => ?_⟩
  · conv => whnf
    exact qq_wk S (no fun z => h2 z.2.2) ⟨rfl, rfl, rfl, rfl, trivial⟩
  conv => whnf
  exact qq_wk S (st_103 S (x7 := 1) h6 (Or.inr rfl) (fun _ => h1 (Or.inr ⟨h, h', h2⟩)) (fun _ z => absurd z (by decide))) ⟨rfl, rfl, rfl, rfl, trivial⟩
theorem st_46 {P : Option Value → qq_w → Prop} {K : Nat → qq_L → List Value → qq_w → Prop} (S : qq_Sat ww_sh ww_ro cs_X1_ofStatement (qq_at 126 kd_X1_ofStatement) (some .int) P K) {w : qq_w} {a f x3 x4 x5 : Int32} {n : Nat} (ha : a = nI n) (hn : n < 64)
    (h1 : ((f = cX w n 3 ∨ f = cX w n 4) ∨ (x3 = 6 ∧ w.1 2 2 = 0 ∧ f = 0)) → P (some (.int (x5 ||| 1 <<< (x4 &&& 31)))) w) (h0 : ¬ ((f = cX w n 3 ∨ f = cX w n 4) ∨ (x3 = 6 ∧ w.1 2 2 = 0 ∧ f = 0)) → P (some (.int x5)) w) : K 46 [(0, .ref 2), (1, .int a), (2, .int f), (3, .int x3), (4, .int x4), (5, .int x5)] [] w := by
  have i3 := nI_ml ha (x := 3) (i := 3) rfl (nI_lit 10)
  have i4 := nI_ml ha (x := 4) (i := 4) rfl (nI_lit 10)
  have c3 : w.1 13 (a * 10 + 3).toNatClampNeg = cX w n 3 := by rw [i_c i3 (by omega)]
  have c4 : w.1 13 (a * 10 + 4).toNatClampNeg = cX w n 4 := by rw [i_c i4 (by omega)]
  have yes : (f = cX w n 3 ∨ f = cX w n 4) → K 79 [(0, .ref 2), (2, .int f), (3, .int x3), (4, .int x4), (5, .int x5), (6, .int 1)] [] w := fun z => st_79 S (Or.inr rfl) (fun _ => h1 (Or.inl z)) (fun q => absurd q (by decide))
  refine qq_go_ok S (fun pc => Nat.beq pc 79) 40 ?_
  conv => whnf
  refine ⟨i_in 640 i3 (by omega) (by decide), ?_⟩
  conv => whnf
  refine ⟨fun h => ?_, fun h => ?_⟩
  · have h : f = w.1 13 (a * 10 + 3).toNatClampNeg := h
    rw [c3] at h
    conv => whnf
    exact qq_wk S (yes (Or.inl h)) ⟨rfl, rfl, rfl, rfl, rfl, rfl, trivial⟩
  have h : ¬ f = w.1 13 (a * 10 + 3).toNatClampNeg := h
  rw [c3] at h
  conv => whnf
  refine ⟨i_in 640 i4 (by omega) (by decide), ?_⟩
  conv => whnf
  refine ⟨fun h' => ?_, fun h' => ?_⟩
  · have h' : ¬ f = w.1 13 (a * 10 + 4).toNatClampNeg := h'
    rw [c4] at h'
    conv => whnf
    refine qq_wk S (st_79 S (x6 := 0) (Or.inl rfl) (fun z => h1 (z.elim (fun q => absurd q (by decide)) Or.inr)) (fun _ z => h0 fun q => q.elim (fun y => y.elim h h') z)) ⟨rfl, rfl, rfl, rfl, rfl, rfl, trivial⟩
  · have h' : f = w.1 13 (a * 10 + 4).toNatClampNeg := h'
    rw [c4] at h'
    conv => whnf
    exact qq_wk S (yes (Or.inr h')) ⟨rfl, rfl, rfl, rfl, rfl, rfl, trivial⟩
set_option maxHeartbeats 4000000 in
set_option maxRecDepth 100000 in
theorem bd_X1_ofStatement : ∀ As w P K, qq_Sat ww_sh ww_ro cs_X1_ofStatement (qq_at 126 kd_X1_ofStatement) (some .int) P K → T_X1_ofStatement As w P → K 0 (lv_args 0 As) [] w := by
  intro As w P K S h
  unfold T_X1_ofStatement at h
  split at h
  · rename_i a f
    obtain ⟨⟨hp, hp2⟩, hq⟩ := h
    obtain ⟨ea, ha⟩ := qn_eq hp (by decide)
    obtain ⟨ek, hk⟩ := qn_eq hp2 (by decide)
    have i1 := nI_ml ea (x := 1) (i := 1) rfl (nI_lit 10)
    have i2 := nI_ml ea (x := 2) (i := 2) rfl (nI_lit 10)
    have c1 : w.1 13 (a * 10 + 1).toNatClampNeg = cX w (qn a) 1 := by rw [i_c i1 (by omega)]
    have c2 : w.1 13 (a * 10 + 2).toNatClampNeg = cX w (qn a) 2 := by rw [i_c i2 (by omega)]
    have c1n : w.1 13 (a * 10 + 1).toNatClampNeg = nI (qn (cX w (qn a) 1)) := c1.trans ek
    have c1q : qn (w.1 13 (a * 10 + 1).toNatClampNeg) = qn (cX w (qn a) 1) := by rw [c1]
    refine qq_go_ok S (fun pc => Nat.beq pc 46) 60 ?_
    conv => whnf
    refine ⟨i_in 640 i1 (by omega) (by decide), ?_⟩
    conv => whnf
    refine ⟨i_in 640 i2 (by omega) (by decide), ?_⟩
    conv => whnf
    refine ⟨i_in 11 c1n hk (by decide), fun hu => ?_, fun hu => ?_⟩
    · have hu : qq_under (qn (w.1 13 (a * 10 + 1).toNatClampNeg)) 3 := hu
      rw [c1q, under3 hk] at hu
      unfold cStmt at hq
      rw [if_pos hu] at hq
      conv => whnf
      refine br_nt (by decide) ?_
      conv => whnf
      have L : ∀ x5 : Int32, x5 = (if f = cX w (qn a) 2 then (0 : Int32) else (1 : Int32) <<< (f &&& 31)) → K 46 [(0, .ref 2), (1, .int a), (2, .int f), (3, .int (cX w (qn a) 1)), (4, .int (cX w (qn a) 2)), (5, .int x5)] [] w := by
        intro x5 e5
        rw [← e5] at hq
        refine st_46 S ea ha (fun z => ?_) (fun z => ?_)
        · rw [if_pos z] at hq
          exact hq
        · rw [if_neg z, or0] at hq
          exact hq
      refine ⟨fun h => ?_, fun h => ?_⟩
      · have h : ¬ f = w.1 13 (a * 10 + 2).toNatClampNeg := h
        rw [c2] at h
        conv => whnf
        refine qq_wk S (L _ (if_neg h).symm) ⟨rfl, rfl, rfl, ?_, ?_, rfl, trivial⟩
        · show some (Value.int (w.1 13 (a * 10 + 1).toNatClampNeg)) = _
          rw [c1]
        · show some (Value.int (w.1 13 (a * 10 + 2).toNatClampNeg)) = _
          rw [c2]
      · have h : f = w.1 13 (a * 10 + 2).toNatClampNeg := h
        rw [c2] at h
        conv => whnf
        refine qq_wk S (L _ (if_pos h).symm) ⟨rfl, rfl, rfl, ?_, ?_, rfl, trivial⟩
        · show some (Value.int (w.1 13 (a * 10 + 1).toNatClampNeg)) = _
          rw [c1]
        · show some (Value.int (w.1 13 (a * 10 + 2).toNatClampNeg)) = _
          rw [c2]
    · have hu : ¬ qq_under (qn (w.1 13 (a * 10 + 1).toNatClampNeg)) 3 := hu
      rw [c1q, under3 hk] at hu
      unfold cStmt at hq
      rw [if_neg hu] at hq
      conv => whnf
      refine br_nf rfl ?_
      conv => whnf
      exact hq
  · exact h.elim
theorem ha_X1_ofStatement : ∀ As w P, T_X1_ofStatement As w P → qq_wd As ≤ 8 := by
  intro As w P h
  unfold T_X1_ofStatement at h
  split at h
  · exact Nat.le_of_ble_eq_true rfl
  · exact h.elim
theorem hv_X1_ofStatement : ∀ As w P, T_X1_ofStatement As w P → ∃ (k : Nat) (r : List Value) (fs : List Nat), As = .ref k :: r ∧ ww_sh[k]? = some (.inr (1, fs)) := by
  intro As w P h
  unfold T_X1_ofStatement at h
  split at h
  · exact ⟨_, _, _, rfl, rfl⟩
  · exact h.elim
set_option maxRecDepth 100000 in
theorem M_X1_ofStatement (l : Launch) : qq_M l ww_T ww_N vwCl ww_sh ww_ro ww_zs yX1_ofStatement cX1_ofStatement 8 (some .int) (ww_rm 2) T_X1_ofStatement := by
  refine qq_mk (host := RX7) (is := ki_X1_ofStatement) (cs := cs_X1_ofStatement) (by decide) ww_k1 wl_X1 ww_so ww_so2 kc_X1_ofStatement kv_X1_ofStatement kg_X1_ofStatement ?_ ha_X1_ofStatement bd_X1_ofStatement
  intro k i q hi hq
  match k, hi, hq with
  | 0, hi, hq => cases hi; cases hq; exact fun p e s m args below meth c D tys tC ad Q pc X hdg => qq_cV (ci := 3) X ww_gd (M_X3_of l) kf_X3_of.1 (Or.inl (ww_a3 (i := 11) (w := Cond.methodLink RX1 60 yX3_of) rfl rfl)) kf_X3_of.2.1 kf_X3_of.2.2.1 kf_X3_of.2.2.2 ⟨by decide, by decide, by decide +kernel⟩ rfl rfl rfl ⟨by decide, by decide⟩ ⟨Nat.le_refl _, Nat.le_refl _⟩ hv_X3_of hdg
  | 1, hi, hq => cases hi; cases hq; exact fun p e s m args below meth c D tys tC ad Q pc X hdg => qq_cS X ww_gd (M_X3_isUnder l) kf_X3_isUnder.1 (Or.inl (ww_a3 (i := 12) (w := Cond.methodLink RX1 63 yX3_isUnder) rfl rfl)) kf_X3_isUnder.2.1 kf_X3_isUnder.2.2 ⟨by decide, by decide, by decide +kernel⟩ rfl rfl ⟨by decide, by decide⟩ ⟨Nat.le_refl _, Nat.le_refl _⟩ hdg
  | n + 2, hi, hq => simp [cs_X1_ofStatement] at hq
abbrev cs_X1_across : List (Nat × qq_t) := [(3, T_X3_of)]
def T_X1_across : qq_t := fun As w P => match As with
  | [.ref 2, .int a, .int f] => vp_in a 64 ∧ P (some (.int (cAcross w (qn a) f))) w
  | _ => False
set_option maxHeartbeats 4000000 in
set_option maxRecDepth 100000 in
theorem bd_X1_across : ∀ As w P K, qq_Sat ww_sh ww_ro cs_X1_across (qq_at 41 kd_X1_across) (some .int) P K → T_X1_across As w P → K 0 (lv_args 0 As) [] w := by
  intro As w P K S h
  unfold T_X1_across at h
  split at h
  · rename_i a f
    obtain ⟨hp, hq⟩ := h
    obtain ⟨ea, ha⟩ := qn_eq hp (by decide)
    have i6 := nI_ml ea (x := 6) (i := 6) rfl (nI_lit 10)
    have c6 : w.1 13 (a * 10 + 6).toNatClampNeg = cX w (qn a) 6 := by rw [i_c i6 (by omega)]
    unfold cAcross at hq
    refine qq_go_ok S (fun _ => false) 60 ?_
    conv => whnf
    refine ⟨fun h => ?_, fun h => ?_⟩
    · rw [if_pos (Or.inl h)] at hq
      conv => whnf
      refine br_f (by decide) ?_
      conv => whnf
      exact hq
    conv => whnf
    refine ⟨fun h4 => ?_, fun h4 => ?_⟩
    · rw [if_neg (fun z => z.elim h (fun y => y.1 h4))] at hq
      conv => whnf
      refine br_t rfl ?_
      conv => whnf
      exact hq
    conv => whnf
    refine ⟨i_in 640 i6 (by omega) (by decide), ?_⟩
    conv => whnf
    refine ⟨fun h6 => ?_, fun h6 => ?_⟩
    · have h6 : f = w.1 13 (a * 10 + 6).toNatClampNeg := h6
      rw [c6] at h6
      rw [if_neg (fun z => z.elim h (fun y => y.2 h6))] at hq
      conv => whnf
      refine br_t rfl ?_
      conv => whnf
      exact hq
    · have h6 : ¬ f = w.1 13 (a * 10 + 6).toNatClampNeg := h6
      rw [c6] at h6
      rw [if_pos (Or.inr ⟨h4, h6⟩)] at hq
      conv => whnf
      refine br_f (by decide) ?_
      conv => whnf
      exact hq
  · exact h.elim
theorem ha_X1_across : ∀ As w P, T_X1_across As w P → qq_wd As ≤ 4 := by
  intro As w P h
  unfold T_X1_across at h
  split at h
  · exact Nat.le_of_ble_eq_true rfl
  · exact h.elim
theorem hv_X1_across : ∀ As w P, T_X1_across As w P → ∃ (k : Nat) (r : List Value) (fs : List Nat), As = .ref k :: r ∧ ww_sh[k]? = some (.inr (1, fs)) := by
  intro As w P h
  unfold T_X1_across at h
  split at h
  · exact ⟨_, _, _, rfl, rfl⟩
  · exact h.elim
set_option maxRecDepth 100000 in
theorem M_X1_across (l : Launch) : qq_M l ww_T ww_N vwCl ww_sh ww_ro ww_zs yX1_across cX1_across 4 (some .int) (ww_rm 1) T_X1_across := by
  refine qq_mk (host := RX7) (is := ki_X1_across) (cs := cs_X1_across) (by decide) ww_k1 wl_X1 ww_so ww_so2 kc_X1_across kv_X1_across kg_X1_across ?_ ha_X1_across bd_X1_across
  intro k i q hi hq
  match k, hi, hq with
  | 0, hi, hq => cases hi; cases hq; exact fun p e s m args below meth c D tys tC ad Q pc X hdg => qq_cV (ci := 3) X ww_gd (M_X3_of l) kf_X3_of.1 (Or.inl (ww_a3 (i := 11) (w := Cond.methodLink RX1 60 yX3_of) rfl rfl)) kf_X3_of.2.1 kf_X3_of.2.2.1 kf_X3_of.2.2.2 ⟨by decide, by decide, by decide +kernel⟩ rfl rfl rfl ⟨by decide, by decide⟩ ⟨Nat.le_refl _, Nat.le_refl _⟩ hv_X3_of hdg
  | n + 1, hi, hq => simp [cs_X1_across] at hq
abbrev cs_X1_back : List (Nat × qq_t) := [(3, T_X3_of)]
def T_X1_back : qq_t := fun As w P => match As with
  | [.ref 2, .int a, .int f] => (vp_in a 64 ∧ vp_in (cX w (qn a) 5) 8) ∧ P (some (.int (cBack w (qn a) f))) w
  | _ => False
theorem bk_84 {P : Option Value → qq_w → Prop} {K : Nat → qq_L → List Value → qq_w → Prop} (S : qq_Sat ww_sh ww_ro cs_X1_back (qq_at 107 kd_X1_back) (some .int) P K) {w : qq_w} {f x3 x4 x5 x6 : Int32} (h6 : x6 = 0 ∨ x6 = 1)
    (h1 : (f = x5 ∨ x6 = 1) → P (some (.int (x4 ||| 1 <<< (x3 &&& 31)))) w) (h0 : ¬ f = x5 → x6 = 0 → P (some (.int x4)) w) : K 84 [(2, .int f), (3, .int x3), (4, .int x4), (5, .int x5), (6, .int x6)] [] w := by
  refine qq_go_ok S (fun _ => false) 40 ?_
  conv => whnf
  refine ⟨fun h => ?_, fun h => ?_⟩
  · conv => whnf
    exact h1 (Or.inl h)
  conv => whnf
  refine ⟨fun h' => ?_, fun h' => ?_⟩
  · conv => whnf
    exact h0 h h'
  · conv => whnf
    exact h1 (Or.inr (h6.elim (fun z => absurd z h') id))
theorem bk_30 {P : Option Value → qq_w → Prop} {K : Nat → qq_L → List Value → qq_w → Prop} (S : qq_Sat ww_sh ww_ro cs_X1_back (qq_at 107 kd_X1_back) (some .int) P K) {w : qq_w} {a f x3 x4 : Int32} {n c : Nat} (ha : a = nI n) (hn : n < 64) (ec : cX w n 5 = nI c) (hc : c < 8)
    (hq : P (some (.int (x4 ||| (if ¬ x3 = -5 ∧ (f = w.1 11 c ∨ (w.1 2 2 = 1 ∧ w.1 11 c = -5 ∧ f = 0)) then 1 <<< (x3 &&& 31) else 0)))) w) : K 30 [(0, .ref 2), (1, .int a), (2, .int f), (3, .int x3), (4, .int x4)] [] w := by
  have i5 := nI_ml ha (x := 5) (i := 5) rfl (nI_lit 10)
  have c5 : w.1 13 (a * 10 + 5).toNatClampNeg = nI c := by rw [i_c i5 (by omega)]; exact ec
  have c11 : w.1 11 (w.1 13 (a * 10 + 5).toNatClampNeg).toNatClampNeg = w.1 11 c := by rw [i_c c5 (by omega)]
  refine qq_go_ok S (fun pc => Nat.beq pc 84) 60 ?_
  conv => whnf
  refine ⟨fun h => ?_, fun h => ?_⟩
  · conv => whnf
    refine ⟨i_in 640 i5 (by omega) (by decide), ?_⟩
    conv => whnf
    refine ⟨i_in 8 c5 hc (by decide), ?_⟩
    conv => whnf
    have L : ∀ x6 : Int32, (x6 = 0 ∨ x6 = 1) → (x6 = 1 ↔ (w.1 2 2 = 1 ∧ w.1 11 c = -5 ∧ f = 0)) → K 84 [(2, .int f), (3, .int x3), (4, .int x4), (5, .int (w.1 11 c)), (6, .int x6)] [] w := by
      intro x6 h01 hi
      refine bk_84 S h01 (fun z => ?_) (fun z1 z2 => ?_)
      · rw [if_pos ⟨h, z.imp id hi.mp⟩] at hq
        exact hq
      · rw [if_neg (fun y => y.2.elim z1 (fun q => absurd (hi.mpr q) (by rw [z2]; decide))), or0] at hq
        exact hq
    have fin : ∀ {x6 : Int32} {lv : qq_L}, K 84 [(2, .int f), (3, .int x3), (4, .int x4), (5, .int (w.1 11 c)), (6, .int x6)] [] w → qq_le [(2, .int f), (3, .int x3), (4, .int x4), (5, .int (w.1 11 c)), (6, .int x6)] lv → K 84 lv [] w := fun k z => qq_wk S k z
    have e5 : (some (Value.int (w.1 11 (w.1 13 (a * 10 + 5).toNatClampNeg).toNatClampNeg)) : Option Value) = some (.int (w.1 11 c)) := by rw [c11]
    refine ⟨fun h1 => ?_, fun h1 => ?_⟩
    · conv => whnf
      exact fin (L 0 (Or.inl rfl) ⟨fun z => absurd z (by decide), fun z => absurd z.1 h1⟩) ⟨rfl, rfl, rfl, e5, rfl, trivial⟩
    conv => whnf
    refine ⟨fun h2 => ?_, fun h2 => ?_⟩
    · have h2 : ¬ w.1 11 (w.1 13 (a * 10 + 5).toNatClampNeg).toNatClampNeg = -5 := h2
      rw [c11] at h2
      conv => whnf
      exact fin (L 0 (Or.inl rfl) ⟨fun z => absurd z (by decide), fun z => absurd z.2.1 h2⟩) ⟨rfl, rfl, rfl, e5, rfl, trivial⟩
    have h2 : w.1 11 (w.1 13 (a * 10 + 5).toNatClampNeg).toNatClampNeg = -5 := h2
    rw [c11] at h2
    conv => whnf
    refine ⟨fun h3 => ?_, fun h3 => ?_⟩
    · conv => whnf
      exact fin (L 0 (Or.inl rfl) ⟨fun z => absurd z (by decide), fun z => absurd z.2.2 h3⟩) ⟨rfl, rfl, rfl, e5, rfl, trivial⟩
    · conv => whnf
      exact fin (L 1 (Or.inr rfl) ⟨fun _ => ⟨h1, h2, h3⟩, fun _ => rfl⟩) ⟨rfl, rfl, rfl, e5, rfl, trivial⟩
  · conv => whnf
    rw [if_neg (fun z => z.1 h), or0] at hq
    exact hq
set_option maxHeartbeats 4000000 in
set_option maxRecDepth 100000 in
theorem bd_X1_back : ∀ As w P K, qq_Sat ww_sh ww_ro cs_X1_back (qq_at 107 kd_X1_back) (some .int) P K → T_X1_back As w P → K 0 (lv_args 0 As) [] w := by
  intro As w P K S h
  unfold T_X1_back at h
  split at h
  · rename_i a f
    obtain ⟨⟨hp, hp2⟩, hq⟩ := h
    obtain ⟨ea, ha⟩ := qn_eq hp (by decide)
    obtain ⟨ec, hc⟩ := qn_eq hp2 (by decide)
    have i6 := nI_ml ea (x := 6) (i := 6) rfl (nI_lit 10)
    have c6 : w.1 13 (a * 10 + 6).toNatClampNeg = cX w (qn a) 6 := by rw [i_c i6 (by omega)]
    unfold cBack at hq
    have e3 : (some (Value.int (w.1 13 (a * 10 + 6).toNatClampNeg)) : Option Value) = some (.int (cX w (qn a) 6)) := by rw [c6]
    refine qq_go_ok S (fun pc => Nat.beq pc 30) 60 ?_
    conv => whnf
    refine ⟨i_in 640 i6 (by omega) (by decide), ?_⟩
    conv => whnf
    refine ⟨fun h => ?_, fun h => ?_⟩
    · rw [if_neg (fun z => z.1 h)] at hq
      conv => whnf
      exact qq_wk S (bk_30 S (x4 := 0) ea ha ec hc hq) ⟨rfl, rfl, rfl, e3, rfl, trivial⟩
    conv => whnf
    refine ⟨fun h6 => ?_, fun h6 => ?_⟩
    · have h6 : f = w.1 13 (a * 10 + 6).toNatClampNeg := h6
      rw [c6] at h6
      rw [if_neg (fun z => z.2 h6)] at hq
      conv => whnf
      exact qq_wk S (bk_30 S (x4 := 0) ea ha ec hc hq) ⟨rfl, rfl, rfl, e3, rfl, trivial⟩
    · have h6 : ¬ f = w.1 13 (a * 10 + 6).toNatClampNeg := h6
      rw [c6] at h6
      rw [if_pos ⟨h, h6⟩] at hq
      conv => whnf
      exact qq_wk S (bk_30 S ea ha ec hc hq) ⟨rfl, rfl, rfl, e3, rfl, trivial⟩
  · exact h.elim
theorem ha_X1_back : ∀ As w P, T_X1_back As w P → qq_wd As ≤ 7 := by
  intro As w P h
  unfold T_X1_back at h
  split at h
  · exact Nat.le_of_ble_eq_true rfl
  · exact h.elim
theorem hv_X1_back : ∀ As w P, T_X1_back As w P → ∃ (k : Nat) (r : List Value) (fs : List Nat), As = .ref k :: r ∧ ww_sh[k]? = some (.inr (1, fs)) := by
  intro As w P h
  unfold T_X1_back at h
  split at h
  · exact ⟨_, _, _, rfl, rfl⟩
  · exact h.elim
set_option maxRecDepth 100000 in
theorem M_X1_back (l : Launch) : qq_M l ww_T ww_N vwCl ww_sh ww_ro ww_zs yX1_back cX1_back 7 (some .int) (ww_rm 1) T_X1_back := by
  refine qq_mk (host := RX7) (is := ki_X1_back) (cs := cs_X1_back) (by decide) ww_k1 wl_X1 ww_so ww_so2 kc_X1_back kv_X1_back kg_X1_back ?_ ha_X1_back bd_X1_back
  intro k i q hi hq
  match k, hi, hq with
  | 0, hi, hq => cases hi; cases hq; exact fun p e s m args below meth c D tys tC ad Q pc X hdg => qq_cV (ci := 3) X ww_gd (M_X3_of l) kf_X3_of.1 (Or.inl (ww_a3 (i := 11) (w := Cond.methodLink RX1 60 yX3_of) rfl rfl)) kf_X3_of.2.1 kf_X3_of.2.2.1 kf_X3_of.2.2.2 ⟨by decide, by decide, by decide +kernel⟩ rfl rfl rfl ⟨by decide, by decide⟩ ⟨Nat.le_refl _, Nat.le_refl _⟩ hv_X3_of hdg
  | n + 1, hi, hq => simp [cs_X1_back] at hq
abbrev cs_X1_targets : List (Nat × qq_t) := [(2, T_X1_rowAt), (2, T_X3_isCall), (3, T_X1_ofStatement), (3, T_X1_across), (3, T_X1_into), (3, T_X1_back)]
/-- to which facts a fact goes, by the client that is there -/
def cTgt (w : qq_w) (n p : Nat) (f x : Int32) : Prop := (w.1 2 2 = 2 ∧ x = if w.1 18 (39 * n + 13 * p + qn f) = -1 then 1 <<< (f &&& 31) else w.1 18 (39 * n + 13 * p + qn f)) ∨ (¬ w.1 2 2 = 2 ∧ ¬ cX w n 1 = 9 ∧ x = cStmt w n f) ∨ (¬ w.1 2 2 = 2 ∧ cX w n 1 = 9 ∧ ((p = 0 ∧ x = cAcross w n f) ∨ (p = 1 ∧ ∀ g, bt x g = true ↔ cInto w n (qn f) g) ∨ (p = 2 ∧ x = cBack w n f)))
/-- a node that flows can be asked of -/
def cFN (w : qq_w) (n : Nat) : Prop := vp_in (cX w n 1) 11 ∧ (cX w n 1 = 9 → vp_in (cX w n 5) 8 ∧ vp_in (cX w n 8) 5 ∧ vp_in (w.1 10 (qn (cX w n 5))) 5 ∧ vp_in (w.1 9 (qn (cX w n 5))) 9 ∧ qn (w.1 10 (qn (cX w n 5))) ≤ qn (w.1 9 (qn (cX w n 5))))
def T_X1_targets : qq_t := fun As w P => match As with
  | [.ref 2, .int a, .int p, .int f] => (vp_in a 64 ∧ vp_in p 3 ∧ vp_in f 13 ∧ cFN w (qn a)) ∧ ∀ x, cTgt w (qn a) (qn p) f x → P (some (.int x)) w
  | _ => False
set_option maxHeartbeats 4000000 in
set_option maxRecDepth 100000 in
theorem bd_X1_targets : ∀ As w P K, qq_Sat ww_sh ww_ro cs_X1_targets (qq_at 87 kd_X1_targets) (some .int) P K → T_X1_targets As w P → K 0 (lv_args 0 As) [] w := by
  intro As w P K S h
  unfold T_X1_targets at h
  split at h
  · rename_i a p f
    obtain ⟨⟨hp, hp2, hp3, hn⟩, hq⟩ := h
    obtain ⟨ea, ha⟩ := qn_eq hp (by decide)
    obtain ⟨ep, hpp⟩ := qn_eq hp2 (by decide)
    obtain ⟨ef, hf⟩ := qn_eq hp3 (by decide)
    have i1 := nI_ml ea (x := 1) (i := 1) rfl (nI_lit 10)
    have c1 : w.1 13 (a * 10 + 1).toNatClampNeg = cX w (qn a) 1 := by rw [i_c i1 (by omega)]
    refine qq_go_ok S (fun _ => false) 80 ?_
    conv => whnf
    refine ⟨fun hcl => ?_, fun hcl => ?_⟩
    · conv => whnf
      refine ⟨i_in 640 i1 (by omega) (by decide), ?_⟩
      conv => whnf
      refine ⟨fun h9 => ?_, fun h9 => ?_⟩
      · have h9 : ¬ w.1 13 (a * 10 + 1).toNatClampNeg = 9 := h9
        rw [c1] at h9
        conv => whnf
        refine br_nf rfl ?_
        conv => whnf
        refine ⟨⟨hp, hn.1⟩, ?_⟩
        conv => whnf
        exact hq _ (Or.inr (Or.inl ⟨hcl, h9, rfl⟩))
      have h9 : w.1 13 (a * 10 + 1).toNatClampNeg = 9 := h9
      rw [c1] at h9
      obtain ⟨n5, n8, n10, n9, nle⟩ := hn.2 h9
      conv => whnf
      refine br_nt (by decide) ?_
      conv => whnf
      refine ⟨fun h0 => ?_, fun h0 => ?_⟩
      · conv => whnf
        refine ⟨fun h1 => ?_, fun h1 => ?_⟩
        · conv => whnf
          refine ⟨⟨hp, n5⟩, ?_⟩
          conv => whnf
          refine hq _ (Or.inr (Or.inr ⟨hcl, h9, Or.inr (Or.inr ⟨?_, rfl⟩)⟩))
          rw [ep] at h0 h1
          have z0 : ¬ qn p = 0 := fun z => h0 (by rw [z]; rfl)
          have z1 : ¬ qn p = 1 := fun z => h1 (by rw [z]; rfl)
          omega
        · conv => whnf
          refine ⟨⟨hp, hp3, n5, n8, n10, n9, nle⟩, fun x hx => ?_⟩
          conv => whnf
          refine hq _ (Or.inr (Or.inr ⟨hcl, h9, Or.inr (Or.inl ⟨?_, hx⟩)⟩))
          rw [ep] at h1
          exact (nI_eq (b := 1) (by omega) (by omega)).mp h1
      · conv => whnf
        refine ⟨hp, ?_⟩
        conv => whnf
        refine hq _ (Or.inr (Or.inr ⟨hcl, h9, Or.inl ⟨?_, rfl⟩⟩))
        rw [ep] at h0
        exact (nI_eq (b := 0) (by omega) (by omega)).mp h0
    · conv => whnf
      have es := nI_st ea ep ef
      refine ⟨i_in 2496 es (by omega) (by decide), ?_⟩
      conv => whnf
      have cs : w.1 18 ((a * 3 + p) * 13 + f).toNatClampNeg = w.1 18 (39 * qn a + 13 * qn p + qn f) := by rw [i_c es (by omega)]
      refine ⟨fun h => ?_, fun h => ?_⟩
      · have h : ¬ w.1 18 ((a * 3 + p) * 13 + f).toNatClampNeg = -1 := h
        rw [cs] at h
        conv => whnf
        refine hq _ (Or.inl ⟨hcl, ?_⟩)
        rw [if_neg h]
        exact cs
      · have h : w.1 18 ((a * 3 + p) * 13 + f).toNatClampNeg = -1 := h
        rw [cs] at h
        conv => whnf
        refine hq _ (Or.inl ⟨hcl, ?_⟩)
        rw [if_pos h]
  · exact h.elim
theorem ha_X1_targets : ∀ As w P, T_X1_targets As w P → qq_wd As ≤ 5 := by
  intro As w P h
  unfold T_X1_targets at h
  split at h
  · exact Nat.le_of_ble_eq_true rfl
  · exact h.elim
theorem hv_X1_targets : ∀ As w P, T_X1_targets As w P → ∃ (k : Nat) (r : List Value) (fs : List Nat), As = .ref k :: r ∧ ww_sh[k]? = some (.inr (1, fs)) := by
  intro As w P h
  unfold T_X1_targets at h
  split at h
  · exact ⟨_, _, _, rfl, rfl⟩
  · exact h.elim
set_option maxRecDepth 100000 in
theorem M_X1_targets (l : Launch) : qq_M l ww_T ww_N vwCl ww_sh ww_ro ww_zs yX1_targets cX1_targets 5 (some .int) (ww_rm 3) T_X1_targets := by
  refine qq_mk (host := RX7) (is := ki_X1_targets) (cs := cs_X1_targets) (by decide) ww_k1 wl_X1 ww_so ww_so2 kc_X1_targets kv_X1_targets kg_X1_targets ?_ ha_X1_targets bd_X1_targets
  intro k i q hi hq
  match k, hi, hq with
  | 0, hi, hq => cases hi; cases hq; exact fun p e s m args below meth c D tys tC ad Q pc X hdg => qq_cS X ww_gd (M_X1_rowAt l) kf_X1_rowAt.1 (Or.inl (ww_a2 (i := 209) (w := Cond.methodLink RX1 29 yX1_rowAt) rfl rfl)) kf_X1_rowAt.2.1 kf_X1_rowAt.2.2 ⟨by decide, by decide, by decide +kernel⟩ rfl rfl ⟨by decide, by decide⟩ ⟨Nat.le_refl _, Nat.le_refl _⟩ hdg
  | 1, hi, hq => cases hi; cases hq; exact fun p e s m args below meth c D tys tC ad Q pc X hdg => qq_cV (ci := 3) X ww_gd (M_X3_isCall l) kf_X3_isCall.1 (Or.inl (ww_a3 (i := 6) (w := Cond.methodLink RX1 44 yX3_isCall) rfl rfl)) kf_X3_isCall.2.1 kf_X3_isCall.2.2.1 kf_X3_isCall.2.2.2 ⟨by decide, by decide, by decide +kernel⟩ rfl rfl rfl ⟨by decide, by decide⟩ ⟨Nat.le_refl _, Nat.le_refl _⟩ hv_X3_isCall hdg
  | 2, hi, hq => cases hi; cases hq; exact fun p e s m args below meth c D tys tC ad Q pc X hdg => qq_cV (ci := 1) X ww_gd (M_X1_ofStatement l) kf_X1_ofStatement.1 (Or.inl (ww_a3 (i := 7) (w := Cond.methodLink RX1 48 yX1_ofStatement) rfl rfl)) kf_X1_ofStatement.2.1 kf_X1_ofStatement.2.2.1 kf_X1_ofStatement.2.2.2 ⟨by decide, by decide, by decide +kernel⟩ rfl rfl rfl ⟨by decide, by decide⟩ ⟨Nat.le_refl _, Nat.le_refl _⟩ hv_X1_ofStatement hdg
  | 3, hi, hq => cases hi; cases hq; exact fun p e s m args below meth c D tys tC ad Q pc X hdg => qq_cV (ci := 1) X ww_gd (M_X1_across l) kf_X1_across.1 (Or.inl (ww_a3 (i := 13) (w := Cond.methodLink RX1 51 yX1_across) rfl rfl)) kf_X1_across.2.1 kf_X1_across.2.2.1 kf_X1_across.2.2.2 ⟨by decide, by decide, by decide +kernel⟩ rfl rfl rfl ⟨by decide, by decide⟩ ⟨Nat.le_refl _, Nat.le_refl _⟩ hv_X1_across hdg
  | 4, hi, hq => cases hi; cases hq; exact fun p e s m args below meth c D tys tC ad Q pc X hdg => qq_cV (ci := 1) X ww_gd (M_X1_into l) kf_X1_into.1 (Or.inl (ww_a3 (i := 17) (w := Cond.methodLink RX1 54 yX1_into) rfl rfl)) kf_X1_into.2.1 kf_X1_into.2.2.1 kf_X1_into.2.2.2 ⟨by decide, by decide, by decide +kernel⟩ rfl rfl rfl ⟨by decide, by decide⟩ ⟨Nat.le_refl _, Nat.le_refl _⟩ hv_X1_into hdg
  | 5, hi, hq => cases hi; cases hq; exact fun p e s m args below meth c D tys tC ad Q pc X hdg => qq_cV (ci := 1) X ww_gd (M_X1_back l) kf_X1_back.1 (Or.inl (ww_a3 (i := 26) (w := Cond.methodLink RX1 57 yX1_back) rfl rfl)) kf_X1_back.2.1 kf_X1_back.2.2.1 kf_X1_back.2.2.2 ⟨by decide, by decide, by decide +kernel⟩ rfl rfl rfl ⟨by decide, by decide⟩ ⟨Nat.le_refl _, Nat.le_refl _⟩ hv_X1_back hdg
  | n + 6, hi, hq => simp [cs_X1_targets] at hq
