abbrev cs_X8_goesOn : List (Nat × qq_t) := [(4, T_X8_goesBack), (4, T_X8_goesIn), (4, T_X8_flows), (4, T_X8_reachAll)]
/-- what one turn of the reference finds; what it sums up -/
def mStN (w : qq_w) (n d f j e : Nat) : Prop := (w.1 43 n = 1 ∧ mBkN w (w.1 42 n) d f (qn (w.1 8 8)) j e) ∨ (w.1 43 n = 9 ∧ mInN w n d f 13 j e) ∨ (¬ w.1 43 n = 1 ∧ ¬ w.1 43 n = 9 ∧ ∃ k, k < qn (w.1 8 20) ∧ w.1 52 k = nI n ∧ j = 13 * qn (w.1 53 k) + d ∧ mF w n 0 f e)
def mStM (w : qq_w) (n d f j e : Nat) : Prop := (w.1 43 n = 1 ∧ mBkM w (w.1 42 n) d f (qn (w.1 8 8)) j e) ∨ (w.1 43 n = 9 ∧ mInM w n f 13 j e)
theorem r_div {x : Int32} {c : Nat} (e : x = nI c) (hc : c < 2 ^ 31) : x / 13 = nI (c / 13) := by
  have : x / nI 13 = nI (c / 13) := by rw [e]; exact pk_div hc (by omega) (by omega)
  exact this
theorem r_rem {x : Int32} {c : Nat} (e : x = nI c) (hc : c < 2 ^ 31) : x - x / 13 * 13 = nI (c % 13) := by
  have : x - x / nI 13 * nI 13 = nI (c % 13) := by rw [e]; exact pk_rem hc (by omega) (by omega)
  exact this
def T_X8_goesOn : qq_t := fun As w P => match As with
  | [.ref 8, .int x] => ((vp_in x 10816 ∧ mPW w (qn (w.1 8 8)) ∧ mSI w ∧ qn x / 169 < qn (w.1 8 8)) ∧ ∃ f, mW w f) ∧ ∀ w', mGo w w' (mStN w (qn x / 169) (qn x / 13 % 13) (qn x % 13)) (mStM w (qn x / 169) (qn x / 13 % 13) (qn x % 13)) → P none w'
  | _ => False
theorem go_70 {P : Option Value → qq_w → Prop} {K : Nat → qq_L → List Value → qq_w → Prop} (S : qq_Sat ww_sh ww_ro cs_X8_goesOn (qq_at 118 kd_X8_goesOn) none P K) {w : qq_w} {x1 x2 x3 x4 : Int32} {N E n dn fn : Nat} (hP : mPW w N) (hf : ∃ f, mW w f) (hn : n < N) (e2 : x2 = nI fn) (hfn : fn < 13) (e3 : x3 = nI dn) (hd : dn < 13) (e4 : x4 = nI n) (eE : w.1 8 20 = nI E) (hE : E ≤ 120) (hed : ∀ k, k < E → ∃ a b, a < N ∧ b < N ∧ w.1 52 k = nI a ∧ w.1 53 k = nI b)
    (hq : ∀ w', mGo w w' (fun j e => ∃ k, k < E ∧ w.1 52 k = nI n ∧ j = 13 * qn (w.1 53 k) + dn ∧ mF w n 0 fn e) (fun _ _ => False) → P none w') :
    ∀ m i, i + m = E → ∀ (x5 : Int32) (w1 : qq_w), x5 = nI i → mGo w w1 (fun j e => ∃ k, k < i ∧ w.1 52 k = nI n ∧ j = 13 * qn (w.1 53 k) + dn ∧ mF w n 0 fn e) (fun _ _ => False) → K 70 [(0, .ref 8), (1, .int x1), (2, .int x2), (3, .int x3), (4, .int x4), (5, .int x5)] [] w1 := by
  have hN := hP.2.1
  have q4 : qn x4 = n := by rw [e4]; exact qn_nI (by omega)
  have q3 : qn x3 = dn := by rw [e3]; exact qn_nI (by omega)
  intro m
  induction m with
  | zero =>
    intro i hi x5 w1 e5 h1
    have : i = E := by omega
    subst this
    have eE1 : w1.1 8 20 = nI i := by rw [h1.2.1 20 (by decide) (by decide) (by decide)]; exact eE
    refine qq_go_ok S (fun pc => Nat.beq pc 70) 60 ?_
    conv => whnf
    refine br_t (i_ge' e5 eE1 (by omega) (by omega)) ?_
    conv => whnf
    exact hq _ h1
  | succ m ih =>
    intro i hi x5 w1 e5 h1
    have eE1 : w1.1 8 20 = nI E := by rw [h1.2.1 20 (by decide) (by decide) (by decide)]; exact eE
    have o52 : w1.1 52 x5.toNatClampNeg = w.1 52 i := by rw [h1.1.2 52 (by simp), i_c e5 (by omega)]
    obtain ⟨a, b, ha, hb, ea, eb⟩ := hed i (by omega)
    have o53 : w1.1 53 x5.toNatClampNeg = nI b := by rw [h1.1.2 53 (by simp), i_c e5 (by omega)]; exact eb
    obtain ⟨s1, s2⟩ := mGo_same h1
    have hP1 := mPW_go h1 hP
    refine qq_go_ok S (fun pc => Nat.beq pc 70) 80 ?_
    conv => whnf
    refine br_f (i_lt' e5 eE1 (by omega) (by omega)) ?_
    conv => whnf
    refine ⟨i_in 120 e5 (by omega) (by decide), ?_⟩
    conv => whnf
    refine ⟨fun h => ?_, fun h => ?_⟩
    · have h : ¬ w1.1 52 x5.toNatClampNeg = x4 := h
      rw [o52, e4] at h
      conv => whnf
      refine qq_wk S (ih (i + 1) (by omega) _ w1 (i_s e5) (mGo_iff h1 (fun j e => ⟨?_, ?_⟩) (fun j e => Iff.rfl))) ⟨rfl, rfl, rfl, rfl, rfl, rfl, trivial⟩
      · rintro ⟨k, z1, z2⟩; exact ⟨k, by omega, z2⟩
      · rintro ⟨k, z1, z2, z3⟩
        by_cases q : k = i
        · subst q; exact absurd z2 h
        · exact ⟨k, by omega, z2, z3⟩
    · have h : w1.1 52 x5.toNatClampNeg = x4 := h
      rw [o52, e4] at h
      conv => whnf
      refine ⟨i_in 120 e5 (by omega) (by decide), ?_⟩
      conv => whnf
      refine ⟨⟨i_in 64 e4 (by omega) (by decide), i_in 3 (k := 0) rfl (by omega) (by decide), i_in 13 e2 hfn (by decide), by rw [q4]; exact hP1.2.2.2.2.1 n hn⟩, fun x hx => ?_⟩
      have hx : mTgt w n 0 (nI fn) x := by
        have := (mTgt_congr s1 s2 _ _ _ _).mp hx
        rw [q4, e2] at this
        exact this
      conv => whnf
      refine ⟨⟨⟨i_in 64 o53 (by omega) (by decide), i_in 13 e3 hd (by decide)⟩, mGo_W h1 hf⟩, fun w2 h2 => ?_⟩
      conv => whnf
      have qb : qn ((120, w1.1 53).2 x5.toNatClampNeg) = b := by
        show qn (w1.1 53 x5.toNatClampNeg) = b
        rw [o53]; exact qn_nI (by omega)
      refine qq_wk S (ih (i + 1) (by omega) _ w2 (i_s e5) (mGo_tr h1 (mGo_of h2) (fun j e => ?_) (fun j e => by simp))) ⟨rfl, rfl, rfl, rfl, rfl, rfl, trivial⟩
      rw [qb, q3, mF_iff hx]
      constructor
      · rintro ⟨k, z1, z2, z3, z4⟩
        by_cases q : k = i
        · subst q
          rw [eb, qn_nI (by omega)] at z3
          obtain ⟨x', hx', hb'⟩ := z4
          exact Or.inr ⟨z3, fs_lt (hP.2.2.2.2.2 _ 0 _ x' hn (by omega) hfn hx') hb', ⟨x', hx', hb'⟩⟩
        · exact Or.inl ⟨k, by omega, z2, z3, z4⟩
      · rintro (⟨k, z1, z2⟩ | ⟨z1, z2, z3⟩)
        · exact ⟨k, by omega, z2⟩
        · exact ⟨i, by omega, h, by rw [eb, qn_nI (by omega)]; exact z1, z3⟩
set_option maxHeartbeats 4000000 in
set_option maxRecDepth 100000 in
theorem bd_X8_goesOn : ∀ As w P K, qq_Sat ww_sh ww_ro cs_X8_goesOn (qq_at 118 kd_X8_goesOn) none P K → T_X8_goesOn As w P → K 0 (lv_args 0 As) [] w := by
  intro As w P K S h
  unfold T_X8_goesOn at h
  split at h
  · rename_i x
    obtain ⟨⟨⟨hp, hP, hSI, hn⟩, hf⟩, hq⟩ := h
    obtain ⟨ex, hx⟩ := qn_eq hp (by decide)
    have d2 := r_rem ex (by omega)
    have d3 := r_div ex (by omega)
    have d4 := r_rem d3 (by omega)
    have d5 := r_div d3 (by omega)
    have d5 : x / 13 / 13 = nI (qn x / 169) := by rw [d5, Nat.div_div_eq_div_mul]
    have hN := hP.2.1
    have c43 : w.1 43 (x / 13 / 13).toNatClampNeg = w.1 43 (qn x / 169) := by rw [i_c d5 (by omega)]
    refine qq_go_ok S (fun pc => Nat.beq pc 70) 60 ?_
    conv => whnf
    refine ⟨by decide, ?_⟩
    conv => whnf
    refine ⟨by decide, ?_⟩
    conv => whnf
    refine ⟨by decide, ?_⟩
    conv => whnf
    refine ⟨by decide, ?_⟩
    conv => whnf
    refine ⟨by decide, ?_⟩
    conv => whnf
    refine ⟨i_in 64 d5 (by omega) (by decide), ?_⟩
    conv => whnf
    refine ⟨fun h => ?_, fun h => ?_⟩
    · have h : ¬ w.1 43 (x / 13 / 13).toNatClampNeg = 1 := h
      rw [c43] at h
      conv => whnf
      refine ⟨i_in 64 d5 (by omega) (by decide), ?_⟩
      conv => whnf
      refine ⟨fun h9 => ?_, fun h9 => ?_⟩
      · have h9 : ¬ w.1 43 (x / 13 / 13).toNatClampNeg = 9 := h9
        rw [c43] at h9
        conv => whnf
        obtain ⟨E, hE, eE, hed⟩ := hP.2.2.2.1
        refine qq_wk S (go_70 S hP hf hn d2 (by omega) d4 (by omega) d5 eE hE hed (fun w' h' => hq w' (mGo_iff h' (fun j e => ⟨?_, ?_⟩) (fun j e => ⟨False.elim, ?_⟩))) E 0 (Nat.zero_add _) _ w rfl (mGo_rf (fun j e => ?_) (fun j e => ?_))) ⟨rfl, rfl, rfl, rfl, rfl, rfl, trivial⟩
        · rintro z
          exact Or.inr (Or.inr ⟨h, h9, by rw [eE, qn_nI (by omega)]; exact z⟩)
        · rintro (⟨z, -⟩ | ⟨z, -⟩ | ⟨-, -, z⟩)
          · exact absurd z h
          · exact absurd z h9
          · rw [eE, qn_nI (by omega)] at z
            exact z
        · rintro (⟨z, -⟩ | ⟨z, -⟩)
          · exact absurd z h
          · exact absurd z h9
        · rintro ⟨k, z, -⟩; omega
        · exact id
      · have h9 : w.1 43 (x / 13 / 13).toNatClampNeg = 9 := h9
        rw [c43] at h9
        conv => whnf
        refine ⟨⟨⟨i_in 13 d4 (by omega) (by decide), i_in 64 d5 (by omega) (by decide), i_in 13 d2 (by omega) (by decide), hP, hSI, ?_, ?_⟩, hf⟩, fun w' h' => ?_⟩
        · rw [d5, qn_nI (by omega)]; exact hn
        · rw [d5, qn_nI (by omega)]; exact h9
        conv => whnf
        have q4 : qn (x / 13 - x / 13 / 13 * 13) = qn x / 13 % 13 := by rw [d4]; exact qn_nI (by omega)
        have q5 : qn (x / 13 / 13) = qn x / 169 := by rw [d5]; exact qn_nI (by omega)
        have q2 : qn (x - x / 13 * 13) = qn x % 13 := by rw [d2]; exact qn_nI (by omega)
        have h' : mGo w w' (mInN w (qn (x / 13 / 13)) (qn (x / 13 - x / 13 / 13 * 13)) (qn (x - x / 13 * 13)) 13) (mInM w (qn (x / 13 / 13)) (qn (x - x / 13 * 13)) 13) := h'
        rw [q4, q5, q2] at h'
        refine hq w' (mGo_iff h' (fun j e => ⟨fun z => Or.inr (Or.inl ⟨h9, z⟩), ?_⟩) (fun j e => ⟨fun z => Or.inr ⟨h9, z⟩, ?_⟩))
        · rintro (⟨z, -⟩ | ⟨-, z⟩ | ⟨-, z, -⟩)
          · exact absurd z h
          · exact z
          · exact absurd h9 z
        · rintro (⟨z, -⟩ | ⟨-, z⟩)
          · exact absurd z h
          · exact z
    · have h : w.1 43 (x / 13 / 13).toNatClampNeg = 1 := h
      rw [c43] at h
      conv => whnf
      refine ⟨⟨⟨i_in 13 d4 (by omega) (by decide), i_in 64 d5 (by omega) (by decide), i_in 13 d2 (by omega) (by decide), hP, hSI⟩, hf⟩, fun w' h' => ?_⟩
      conv => whnf
      have q4 : qn (x / 13 - x / 13 / 13 * 13) = qn x / 13 % 13 := by rw [d4]; exact qn_nI (by omega)
      have q5 : qn (x / 13 / 13) = qn x / 169 := by rw [d5]; exact qn_nI (by omega)
      have q2 : qn (x - x / 13 * 13) = qn x % 13 := by rw [d2]; exact qn_nI (by omega)
      have h' : mGo w w' (mBkN w (w.1 42 (qn (x / 13 / 13))) (qn (x / 13 - x / 13 / 13 * 13)) (qn (x - x / 13 * 13)) (qn (w.1 8 8))) (mBkM w (w.1 42 (qn (x / 13 / 13))) (qn (x / 13 - x / 13 / 13 * 13)) (qn (x - x / 13 * 13)) (qn (w.1 8 8))) := h'
      rw [q4, q5, q2] at h'
      have h9 : ¬ w.1 43 (qn x / 169) = 9 := by rw [h]; decide
      refine hq w' (mGo_iff h' (fun j e => ⟨fun z => Or.inl ⟨h, z⟩, ?_⟩) (fun j e => ⟨fun z => Or.inl ⟨h, z⟩, ?_⟩))
      · rintro (⟨-, z⟩ | ⟨z, -⟩ | ⟨z, -⟩)
        · exact z
        · exact absurd z h9
        · exact absurd h z
      · rintro (⟨-, z⟩ | ⟨z, -⟩)
        · exact z
        · exact absurd z h9
  · exact h.elim
theorem ha_X8_goesOn : ∀ As w P, T_X8_goesOn As w P → qq_wd As ≤ 6 := by
  intro As w P h
  unfold T_X8_goesOn at h
  split at h
  · exact Nat.le_of_ble_eq_true rfl
  · exact h.elim
theorem hv_X8_goesOn : ∀ As w P, T_X8_goesOn As w P → ∃ (k : Nat) (r : List Value) (fs : List Nat), As = .ref k :: r ∧ ww_sh[k]? = some (.inr (8, fs)) := by
  intro As w P h
  unfold T_X8_goesOn at h
  split at h
  · exact ⟨_, _, _, rfl, rfl⟩
  · exact h.elim
set_option maxRecDepth 100000 in
theorem M_X8_goesOn (l : Launch) : qq_M l ww_T ww_N vwCl ww_sh ww_ro ww_zs yX8_goesOn cX8_goesOn 6 none (ww_rm 4) T_X8_goesOn := by
  refine qq_mk (host := RX7) (is := ki_X8_goesOn) (cs := cs_X8_goesOn) (by decide) ww_k1 wl_X8 ww_so ww_so2 kc_X8_goesOn kv_X8_goesOn kg_X8_goesOn ?_ ha_X8_goesOn bd_X8_goesOn
  intro k i q hi hq
  match k, hi, hq with
  | 0, hi, hq => cases hi; cases hq; exact fun p e s m args below meth c D tys tC ad Q pc X hdg => qq_cV (ci := 8) X ww_gd (M_X8_goesBack l) kf_X8_goesBack.1 (Or.inl (ww_a5 (i := 234) (w := Cond.methodLink RX8 226 yX8_goesBack) rfl rfl)) kf_X8_goesBack.2.1 kf_X8_goesBack.2.2.1 kf_X8_goesBack.2.2.2 ⟨by decide, by decide, by decide +kernel⟩ rfl rfl rfl ⟨by decide, by decide⟩ ⟨Nat.le_refl _, Nat.le_refl _⟩ hv_X8_goesBack hdg
  | 1, hi, hq => cases hi; cases hq; exact fun p e s m args below meth c D tys tC ad Q pc X hdg => qq_cV (ci := 8) X ww_gd (M_X8_goesIn l) kf_X8_goesIn.1 (Or.inl (ww_a6 (i := 14) (w := Cond.methodLink RX8 229 yX8_goesIn) rfl rfl)) kf_X8_goesIn.2.1 kf_X8_goesIn.2.2.1 kf_X8_goesIn.2.2.2 ⟨by decide, by decide, by decide +kernel⟩ rfl rfl rfl ⟨by decide, by decide⟩ ⟨Nat.le_refl _, Nat.le_refl _⟩ hv_X8_goesIn hdg
  | 2, hi, hq => cases hi; cases hq; exact fun p e s m args below meth c D tys tC ad Q pc X hdg => qq_cV (ci := 8) X ww_gd (M_X8_flows l) kf_X8_flows.1 (Or.inl (ww_a5 (i := 187) (w := Cond.methodLink RX8 184 yX8_flows) rfl rfl)) kf_X8_flows.2.1 kf_X8_flows.2.2.1 kf_X8_flows.2.2.2 ⟨by decide, by decide, by decide +kernel⟩ rfl rfl rfl ⟨by decide, by decide⟩ ⟨Nat.le_refl _, Nat.le_refl _⟩ hv_X8_flows hdg
  | 3, hi, hq => cases hi; cases hq; exact fun p e s m args below meth c D tys tC ad Q pc X hdg => qq_cV (ci := 8) X ww_gd (M_X8_reachAll l) kf_X8_reachAll.1 (Or.inl (ww_a6 (i := 10) (w := Cond.methodLink RX8 223 yX8_reachAll) rfl rfl)) kf_X8_reachAll.2.1 kf_X8_reachAll.2.2.1 kf_X8_reachAll.2.2.2 ⟨by decide, by decide, by decide +kernel⟩ rfl rfl rfl ⟨by decide, by decide⟩ ⟨Nat.le_refl _, Nat.le_refl _⟩ hv_X8_reachAll hdg
  | n + 4, hi, hq => simp [cs_X8_goesOn] at hq
abbrev cs_X8_beginning : List (Nat × qq_t) := []
def mBegin (w : qq_w) : Int32 := 1 ||| (if w.1 8 23 = 1 then ((1 : Int32) <<< ((5 + w.1 37 0) &&& 31)) - 1 else if w.1 8 23 = 2 then w.1 8 25 else 0)
theorem mBegin_congr {w w1 : qq_w} (h23 : w1.1 8 23 = w.1 8 23) (h25 : w1.1 8 25 = w.1 8 25) (h37 : w1.1 37 = w.1 37) : mBegin w1 = mBegin w := by
  unfold mBegin
  rw [h23, h25, h37]
def T_X8_beginning : qq_t := fun As w P => match As with
  | [.ref 8] => True ∧ P (some (.int (mBegin w))) w
  | _ => False
set_option maxHeartbeats 4000000 in
set_option maxRecDepth 100000 in
theorem bd_X8_beginning : ∀ As w P K, qq_Sat ww_sh ww_ro cs_X8_beginning (qq_at 44 kd_X8_beginning) (some .int) P K → T_X8_beginning As w P → K 0 (lv_args 0 As) [] w := by
  intro As w P K S h
  unfold T_X8_beginning at h
  split at h
  · skip
    obtain ⟨-, key⟩ := h
    unfold mBegin at key
    refine qq_go_ok S (fun _ => false) 60 ?_
    conv => whnf
    refine ⟨i_in 8 (k := 0) rfl (by omega) (by decide), ?_⟩
    conv => whnf
    refine ⟨fun h => ?_, fun h => ?_⟩
    · have h : ¬ w.1 8 23 = 1 := h
      rw [if_neg h] at key
      conv => whnf
      refine ⟨fun h => ?_, fun h => ?_⟩
      · have h : ¬ w.1 8 23 = 2 := h
        rw [if_neg h] at key
        conv => whnf
        exact key
      · have h : w.1 8 23 = 2 := h
        rw [if_pos h] at key
        conv => whnf
        exact key
    · have h : w.1 8 23 = 1 := h
      rw [if_pos h] at key
      conv => whnf
      exact key
  · exact h.elim
theorem ha_X8_beginning : ∀ As w P, T_X8_beginning As w P → qq_wd As ≤ 2 := by
  intro As w P h
  unfold T_X8_beginning at h
  split at h
  · exact Nat.le_of_ble_eq_true rfl
  · exact h.elim
theorem hv_X8_beginning : ∀ As w P, T_X8_beginning As w P → ∃ (k : Nat) (r : List Value) (fs : List Nat), As = .ref k :: r ∧ ww_sh[k]? = some (.inr (8, fs)) := by
  intro As w P h
  unfold T_X8_beginning at h
  split at h
  · exact ⟨_, _, _, rfl, rfl⟩
  · exact h.elim
set_option maxRecDepth 100000 in
theorem M_X8_beginning (l : Launch) : qq_M l ww_T ww_N vwCl ww_sh ww_ro ww_zs yX8_beginning cX8_beginning 2 (some .int) (ww_rm 0) T_X8_beginning := by
  refine qq_mk (host := RX7) (is := ki_X8_beginning) (cs := cs_X8_beginning) (by decide) ww_k1 wl_X8 ww_so ww_so2 kc_X8_beginning kv_X8_beginning kg_X8_beginning ?_ ha_X8_beginning bd_X8_beginning
  intro k i q hi hq
  simp [cs_X8_beginning] at hq
abbrev cs_X8_begins : List (Nat × qq_t) := [(1, T_X8_beginning), (4, T_X8_reaches)]
/-- the reference's solving begins -/
def mStart (w w' : qq_w) : Prop := qq_only [8, 56, 57, 58] w w' ∧ (∀ j, j ∉ [27, 28, 32, 33, 34, 35, 36] → w'.1 8 j = w.1 8 j) ∧ w'.1 8 27 = 1 ∧ w'.1 8 36 = 0 ∧ w'.1 8 28 = 0 ∧ w'.1 8 33 = 0 ∧ mSI w' ∧ (∃ f, mW w' f) ∧ (∀ j, j < 832 → w'.1 57 j = 0) ∧ ∀ j e, j < 832 → (bt (w'.1 56 j) e = true ↔ e < 13 ∧ j = 13 * qn (w.1 39 0) + e ∧ bt (mBegin w) e = true)
def T_X8_begins : qq_t := fun As w P => match As with
  | [.ref 8] => vp_in (w.1 39 0) 64 ∧ ∀ w', mStart w w' → P none w'
  | _ => False
theorem be_76 {P : Option Value → qq_w → Prop} {K : Nat → qq_L → List Value → qq_w → Prop} (S : qq_Sat ww_sh ww_ro cs_X8_begins (qq_at 103 kd_X8_begins) none P K) {w w1 : qq_w} {x1 b : Int32} {i l : Nat} (e1 : x1 = nI i) (hi : i < 13) (el : w1.1 39 0 = nI l) (hl : l < 64) (hf : ∃ f, mW w1 f)
    (h1 : bt b i = true → ∀ w2, mAdd w1 w2 (fun j e => j = 13 * l + i ∧ e = i) → K 66 [(0, .ref 8), (1, .int (x1 + 1))] [] w2) (h0 : ¬ bt b i = true → K 66 [(0, .ref 8), (1, .int (x1 + 1))] [] w1) :
    K 76 [(0, .ref 8), (1, .int x1)] [.int b] w1 := by
  have hb : (b >>> (x1 &&& 31)) &&& 1 = 1 ↔ bt b i = true := by rw [e1]; exact b_has1 (by omega) _
  refine qq_go_ok S (fun pc => Nat.beq pc 66) 60 ?_
  conv => whnf
  refine ⟨fun h => ?_, fun h => ?_⟩
  · conv => whnf
    exact qq_wk S (h0 fun z => h (hb.mpr z)) ⟨rfl, rfl, trivial⟩
  · conv => whnf
    refine ⟨i_in 8 (k := 0) rfl (by omega) (by decide), ?_⟩
    conv => whnf
    have el' : w1.1 39 (0 : Int32).toNatClampNeg = nI l := el
    refine ⟨⟨⟨i_in 64 el' hl (by decide), i_in 13 e1 hi (by decide), i_in 13 e1 hi (by decide)⟩, hf⟩, fun w2 h2 => ?_⟩
    conv => whnf
    have ql : qn ((8, w1.1 39).2 (0 : Int32).toNatClampNeg) = l := by
      show qn (w1.1 39 (0 : Int32).toNatClampNeg) = l
      rw [el']; exact qn_nI (by omega)
    have q1 : qn x1 = i := by rw [e1]; exact qn_nI (by omega)
    refine qq_wk S (h1 (hb.mp h) w2 ⟨h2.1, fun j e => ?_⟩) ⟨rfl, rfl, trivial⟩
    rw [h2.2 j e, ql, q1]
theorem be_66 {P : Option Value → qq_w → Prop} {K : Nat → qq_L → List Value → qq_w → Prop} (S : qq_Sat ww_sh ww_ro cs_X8_begins (qq_at 103 kd_X8_begins) none P K) {w : qq_w} {l : Nat} (el : w.1 39 0 = nI l) (hl : l < 64) (hf : ∃ f, mW w f)
    (hq : ∀ w', mAdd w w' (fun j e => e < 13 ∧ j = 13 * l + e ∧ bt (mBegin w) e = true) → P none w') :
    ∀ m i, i + m = 13 → ∀ (x1 : Int32) (w1 : qq_w), x1 = nI i → mAdd w w1 (fun j e => e < i ∧ j = 13 * l + e ∧ bt (mBegin w) e = true) → K 66 [(0, .ref 8), (1, .int x1)] [] w1 := by
  intro m
  induction m with
  | zero =>
    intro i hi x1 w1 e1 h1
    have : i = 13 := by omega
    subst this
    refine qq_go_ok S (fun pc => Nat.beq pc 66) 60 ?_
    conv => whnf
    refine br_t (i_ge 13 e1 (by omega) (by omega)) ?_
    conv => whnf
    exact hq _ h1
  | succ m ih =>
    intro i hi x1 w1 e1 h1
    have hb1 : mBegin w1 = mBegin w := mBegin_congr (h1.1.2.1 23 (by decide) (by decide)) (h1.1.2.1 25 (by decide) (by decide)) (h1.1.1.2 37 (by simp))
    have key : K 76 [(0, .ref 8), (1, .int x1)] [.int (mBegin w1)] w1 := by
      refine be_76 S (w := w) e1 (by omega) (by rw [h1.1.1.2 39 (by simp)]; exact el) hl (mExt_W h1.1 hf) (fun hb w2 h2 => ih (i + 1) (by omega) _ w2 (i_s e1) ⟨mExt_tr h1.1 h2.1, fun j e => ?_⟩) (fun hb => ih (i + 1) (by omega) _ w1 (i_s e1) ⟨h1.1, fun j e => ?_⟩)
      · rw [h2.2, h1.2]
        rw [hb1] at hb
        constructor
        · rintro ((z | ⟨z1, z2⟩) | ⟨z1, z2⟩)
          · exact Or.inl z
          · exact Or.inr ⟨by omega, z2⟩
          · subst z2; exact Or.inr ⟨by omega, z1, hb⟩
        · rintro (z | ⟨z1, z2, z3⟩)
          · exact Or.inl (Or.inl z)
          · by_cases q : e = i
            · subst q; exact Or.inr ⟨z2, rfl⟩
            · exact Or.inl (Or.inr ⟨by omega, z2, z3⟩)
      · rw [h1.2]
        rw [hb1] at hb
        constructor
        · rintro (z | ⟨z1, z2⟩)
          · exact Or.inl z
          · exact Or.inr ⟨by omega, z2⟩
        · rintro (z | ⟨z1, z2, z3⟩)
          · exact Or.inl z
          · by_cases q : e = i
            · subst q; exact absurd z3 hb
            · exact Or.inr ⟨by omega, z2, z3⟩
    refine qq_go_ok S (fun pc => Nat.beq pc 66 || Nat.beq pc 76) 60 ?_
    conv => whnf
    refine br_f (i_nge 13 e1 (by omega) (by omega)) ?_
    conv => whnf
    refine ⟨trivial, ?_⟩
    conv => whnf
    exact qq_wk S key ⟨rfl, rfl, trivial⟩
theorem cCount_0 {f : Nat → Int32} : ∀ n, (∀ j, j < n → f j = 0) → cCount f n = 0
  | 0, _ => rfl
  | n + 1, h => by
    unfold cCount
    rw [cCount_0 n (fun j hj => h j (by omega)), h n (by omega)]
    rfl
theorem be_2 {P : Option Value → qq_w → Prop} {K : Nat → qq_L → List Value → qq_w → Prop} (S : qq_Sat ww_sh ww_ro cs_X8_begins (qq_at 103 kd_X8_begins) none P K) {w : qq_w} {l : Nat} (el : w.1 39 0 = nI l) (hl : l < 64) (hq : ∀ w', mStart w w' → P none w') :
    ∀ m i, i + m = 832 → ∀ (x1 : Int32) (w1 : qq_w), x1 = nI i → qq_only [56, 57] w w1 → (∀ j, j < i → w1.1 56 j = 0 ∧ w1.1 57 j = 0) → K 2 [(0, .ref 8), (1, .int x1)] [] w1 := by
  intro m
  induction m with
  | zero =>
    intro i hi x1 w1 e1 h1 h2
    have : i = 832 := by omega
    subst this
    refine qq_go_ok S (fun pc => Nat.beq pc 2 || Nat.beq pc 66) 80 ?_
    conv => whnf
    refine br_t (i_ge 832 e1 (by omega) (by omega)) ?_
    conv => whnf
    refine ⟨Or.inr rfl, ?_⟩
    conv => whnf
    refine ⟨Or.inl rfl, ?_⟩
    conv => whnf
    let W : qq_w := qq_ui (qq_ui (qq_ui (qq_ui (qq_ui (qq_ui (qq_ui w1 8 27 1) 8 36 0) 8 28 0) 8 32 0) 8 33 0) 8 34 0) 8 35 0
    have hW56 : W.1 56 = w1.1 56 := rfl
    have hW57 : W.1 57 = w1.1 57 := rfl
    have hW8 : ∀ j, j ∉ [27, 28, 32, 33, 34, 35, 36] → W.1 8 j = w1.1 8 j := by
      intro j hj
      simp only [List.mem_cons, List.not_mem_nil, or_false, not_or] at hj
      show upd (upd (upd (upd (upd (upd (upd (w1.1 8) 27 1) 36 0) 28 0) 32 0) 33 0) 34 0) 35 0 j = _
      simp only [upd_at, hj, if_false]
    have hWo : ∀ q, q ≠ 8 → W.1 q = w1.1 q := by
      intro q hq
      simp only [W, qq_ui, va_up, hq, if_false]
    have o1 : w1.1 8 = w.1 8 := h1.2 8 (by simp)
    have hmW : mW W 0 := by
      refine ⟨rfl, rfl, fun c z => z.1, fun i hi => absurd hi (by omega), fun c z => ?_, fun i j hi => absurd hi (by omega)⟩
      obtain ⟨z1, z2⟩ := z
      rw [hW56, (h2 (c / 13) (by omega)).1, b_0] at z2
      cases z2
    have hSI : mSI W := by
      show (0 : Int32) = nI (cCount (W.1 57) 832)
      rw [hW57, cCount_0 832 (fun j hj => (h2 j hj).2)]
      rfl
    have hbg : mBegin W = mBegin w := mBegin_congr (by rw [hW8 23 (by decide), o1]) (by rw [hW8 25 (by decide), o1]) (by rw [hWo 37 (by decide), h1.2 37 (by simp)])
    refine qq_wk S (be_66 S (w := W) (by rw [hWo 39 (by decide), h1.2 39 (by simp)]; exact el) hl ⟨0, hmW⟩ (fun w' h' => hq w' ?_) 13 0 rfl _ W rfl ⟨mExt_rf, fun j e => ?_⟩) ⟨rfl, rfl, trivial⟩
    · obtain ⟨⟨a1, a2, a3⟩, a4⟩ := h'
      have o57 : w'.1 57 = w1.1 57 := by rw [a1.2 57 (by simp)]; exact hW57
      obtain ⟨f', -, b2, -⟩ := a3 0 hmW
      refine ⟨⟨by rw [a1.1]; exact h1.1, fun q hq => ?_⟩, fun j hj => ?_, ?_, ?_, ?_, ?_, ?_, ⟨f', b2⟩, fun j hj => by rw [o57]; exact (h2 j hj).2, fun j e hj => ?_⟩
      · have hq' : q ≠ 8 ∧ q ≠ 56 ∧ q ≠ 57 ∧ q ≠ 58 := by simpa using hq
        rw [a1.2 q (by simp [hq']), hWo q hq'.1, h1.2 q (by simp [hq'])]
      · have hj' := hj
        simp only [List.mem_cons, List.not_mem_nil, or_false, not_or] at hj'
        rw [a2 j (by omega) (by omega), hW8 j hj, o1]
      · rw [a2 27 (by decide) (by decide)]; rfl
      · rw [a2 36 (by decide) (by decide)]; rfl
      · rw [a2 28 (by decide) (by decide)]; rfl
      · rw [a2 33 (by decide) (by decide)]; rfl
      · show w'.1 8 35 = nI (cCount (w'.1 57) 832)
        rw [a2 35 (by decide) (by decide), o57]
        exact hSI
      · rw [a4 j e, hW56, (h2 j hj).1, b_0, hbg, el, qn_nI (by omega)]
        simp
    · constructor
      · exact Or.inl
      · rintro (z | ⟨z, -⟩)
        · exact z
        · omega
  | succ m ih =>
    intro i hi x1 w1 e1 h1 h2
    have c1 := i_c e1 (by omega)
    refine qq_go_ok S (fun pc => Nat.beq pc 2) 60 ?_
    conv => whnf
    refine br_f (i_nge 832 e1 (by omega) (by omega)) ?_
    conv => whnf
    refine ⟨i_in 832 e1 (by omega) (by decide), ?_⟩
    conv => whnf
    refine ⟨i_in 832 e1 (by omega) (by decide), ?_⟩
    conv => whnf
    refine qq_wk S (ih (i + 1) (by omega) _ _ (i_s e1) (qq_only_ui (qq_only_ui h1 (by simp)) (by simp)) (fun j hj => ?_)) ⟨rfl, rfl, trivial⟩
    constructor
    · show upd (w1.1 56) x1.toNatClampNeg 0 j = 0
      rw [c1, upd_at]
      split
      · rfl
      · exact (h2 j (by omega)).1
    · show upd (w1.1 57) x1.toNatClampNeg 0 j = 0
      rw [c1, upd_at]
      split
      · rfl
      · exact (h2 j (by omega)).2
set_option maxHeartbeats 4000000 in
set_option maxRecDepth 100000 in
theorem bd_X8_begins : ∀ As w P K, qq_Sat ww_sh ww_ro cs_X8_begins (qq_at 103 kd_X8_begins) none P K → T_X8_begins As w P → K 0 (lv_args 0 As) [] w := by
  intro As w P K S h
  unfold T_X8_begins at h
  split at h
  · skip
    obtain ⟨hp, hq⟩ := h
    obtain ⟨el, hl⟩ := qn_eq hp (by decide)
    refine qq_go_ok S (fun pc => Nat.beq pc 2) 60 ?_
    conv => whnf
    exact qq_wk S (be_2 S el hl hq 832 0 rfl _ w rfl qq_only_rf (fun j hj => absurd hj (by omega))) ⟨rfl, rfl, trivial⟩
  · exact h.elim
theorem ha_X8_begins : ∀ As w P, T_X8_begins As w P → qq_wd As ≤ 2 := by
  intro As w P h
  unfold T_X8_begins at h
  split at h
  · exact Nat.le_of_ble_eq_true rfl
  · exact h.elim
theorem hv_X8_begins : ∀ As w P, T_X8_begins As w P → ∃ (k : Nat) (r : List Value) (fs : List Nat), As = .ref k :: r ∧ ww_sh[k]? = some (.inr (8, fs)) := by
  intro As w P h
  unfold T_X8_begins at h
  split at h
  · exact ⟨_, _, _, rfl, rfl⟩
  · exact h.elim
set_option maxRecDepth 100000 in
theorem M_X8_begins (l : Launch) : qq_M l ww_T ww_N vwCl ww_sh ww_ro ww_zs yX8_begins cX8_begins 2 none (ww_rm 1) T_X8_begins := by
  refine qq_mk (host := RX7) (is := ki_X8_begins) (cs := cs_X8_begins) (by decide) ww_k1 wl_X8 ww_so ww_so2 kc_X8_begins kv_X8_begins kg_X8_begins ?_ ha_X8_begins bd_X8_begins
  intro k i q hi hq
  match k, hi, hq with
  | 0, hi, hq => cases hi; cases hq; exact fun p e s m args below meth c D tys tC ad Q pc X hdg => qq_cV (ci := 8) X ww_gd (M_X8_beginning l) kf_X8_beginning.1 (Or.inl (ww_a5 (i := 222) (w := Cond.methodLink RX8 210 yX8_beginning) rfl rfl)) kf_X8_beginning.2.1 kf_X8_beginning.2.2.1 kf_X8_beginning.2.2.2 ⟨by decide, by decide, by decide +kernel⟩ rfl rfl rfl ⟨by decide, by decide⟩ ⟨Nat.le_refl _, Nat.le_refl _⟩ hv_X8_beginning hdg
  | 1, hi, hq => cases hi; cases hq; exact fun p e s m args below meth c D tys tC ad Q pc X hdg => qq_cV (ci := 8) X ww_gd (M_X8_reaches l) kf_X8_reaches.1 (Or.inl (ww_a5 (i := 226) (w := Cond.methodLink RX8 194 yX8_reaches) rfl rfl)) kf_X8_reaches.2.1 kf_X8_reaches.2.2.1 kf_X8_reaches.2.2.2 ⟨by decide, by decide, by decide +kernel⟩ rfl rfl rfl ⟨by decide, by decide⟩ ⟨Nat.le_refl _, Nat.le_refl _⟩ hv_X8_reaches hdg
  | n + 2, hi, hq => simp [cs_X8_begins] at hq
abbrev cs_X8_isWhole : List (Nat × qq_t) := []
/-- a CALL lacks nothing, by the reference; a whole program -/
def mCW (w : qq_w) (c : Nat) : Prop := qq_full (w.1 51) (4 * c) (qn (w.1 50 c)) ∧ w.1 50 c = w.1 38 (qn (w.1 47 c))
def mWhole (w : qq_w) : Prop := 0 < w.1 8 2 ∧ ∀ c, c < qn (w.1 8 8) → w.1 43 c = 9 → mCW w c
def mRo (w : qq_w) (n : Nat) : Prop := (w.1 43 n = 9 → vp_in (w.1 50 n) 5 ∧ vp_in (w.1 47 n) 8) ∧ (¬ w.1 43 n = 9 → w.1 50 n = -5)
def T_X8_isWhole : qq_t := fun As w P => match As with
  | [.ref 8] => (vp_in (w.1 8 8) 65 ∧ ∀ n, n < qn (w.1 8 8) → mRo w n) ∧ (mWhole w → P (some (.int 1)) w) ∧ (¬ mWhole w → P (some (.int 0)) w)
  | _ => False
theorem iw_66 {P : Option Value → qq_w → Prop} {K : Nat → qq_L → List Value → qq_w → Prop} (S : qq_Sat ww_sh ww_ro cs_X8_isWhole (qq_at 115 kd_X8_isWhole) (some .boolean) P K) {w : qq_w} {x2 : Int32} {n r : Nat} {A : Prop} (e2 : x2 = nI n) (hn : n < 64) (hr : (w.1 50 n = nI r ∧ r < 5) ∨ (w.1 50 n = -5 ∧ r = 0))
    (hk : ∀ x1 : Int32, (x1 = 1 ∧ A ∧ qq_full (w.1 51) (4 * n) r) ∨ (x1 = 0 ∧ ¬ (A ∧ qq_full (w.1 51) (4 * n) r)) → K 15 [(0, .ref 8), (1, .int x1), (2, .int (x2 + 1))] [] w) :
    ∀ m i, i + m = r → ∀ x1 x3 : Int32, x3 = nI i → (x1 = 1 ∧ A ∧ qq_full (w.1 51) (4 * n) i) ∨ (x1 = 0 ∧ ¬ (A ∧ qq_full (w.1 51) (4 * n) i)) → K 66 [(0, .ref 8), (1, .int x1), (2, .int x2), (3, .int x3)] [] w := by
  have c50 : w.1 50 x2.toNatClampNeg = w.1 50 n := by rw [i_c e2 (by omega)]
  intro m
  induction m with
  | zero =>
    intro i hi x1 x3 e3 h1
    have : i = r := by omega
    subst this
    have hle : w.1 50 x2.toNatClampNeg ≤ x3 := by
      rw [c50]
      rcases hr with ⟨z1, z2⟩ | ⟨z1, z2⟩
      · exact i_ge' e3 z1 (by omega) (by omega)
      · rw [z1, e3, z2]; decide
    refine qq_go_ok S (fun pc => Nat.beq pc 66 || Nat.beq pc 15) 60 ?_
    conv => whnf
    refine ⟨i_in 64 e2 hn (by decide), ?_⟩
    conv => whnf
    refine br_t hle ?_
    conv => whnf
    exact qq_wk S (hk x1 h1) ⟨rfl, rfl, rfl, trivial⟩
  | succ m ih =>
    intro i hi x1 x3 e3 h1
    obtain ⟨er, hr5⟩ : w.1 50 n = nI r ∧ r < 5 := by
      rcases hr with z | ⟨-, z⟩
      · exact z
      · omega
    refine qq_go_ok S (fun pc => Nat.beq pc 66 || Nat.beq pc 15) 60 ?_
    conv => whnf
    refine ⟨i_in 64 e2 hn (by decide), ?_⟩
    conv => whnf
    refine br_f (i_lt' e3 (c50.trans er) (by omega) (by omega)) ?_
    conv => whnf
    have step : qq_full (w.1 51) (4 * n) (i + 1) ↔ qq_full (w.1 51) (4 * n) i ∧ ¬ w.1 51 (4 * n + i) = -5 := by
      constructor
      · intro z; exact ⟨fun k hk => z k (by omega), z i (by omega)⟩
      · rintro ⟨z1, z2⟩ k hk
        by_cases q : k = i
        · subst q; exact z2
        · exact z1 k (by omega)
    rcases h1 with ⟨rfl, hA, hfu⟩ | ⟨rfl, hA⟩
    · refine br_f (by decide) ?_
      conv => whnf
      have e := nI_mr e2 e3 (nI_lit 4)
      refine ⟨i_in 256 e (by omega) (by decide), ?_⟩
      conv => whnf
      have ce : w.1 51 ((4 : Int32) * x2 + x3).toNatClampNeg = w.1 51 (4 * n + i) := by rw [i_c e (by omega)]
      refine ⟨fun h => ?_, fun h => ?_⟩
      · have h : w.1 51 ((4 : Int32) * x2 + x3).toNatClampNeg = -5 := h
        rw [ce] at h
        conv => whnf
        exact qq_wk S (ih (i + 1) (by omega) _ _ (i_s e3) (Or.inr ⟨rfl, fun z => (step.mp z.2).2 h⟩)) ⟨rfl, rfl, rfl, rfl, trivial⟩
      · have h : ¬ w.1 51 ((4 : Int32) * x2 + x3).toNatClampNeg = -5 := h
        rw [ce] at h
        conv => whnf
        exact qq_wk S (ih (i + 1) (by omega) _ _ (i_s e3) (Or.inl ⟨rfl, hA, step.mpr ⟨hfu, h⟩⟩)) ⟨rfl, rfl, rfl, rfl, trivial⟩
    · refine br_t rfl ?_
      conv => whnf
      exact qq_wk S (ih (i + 1) (by omega) _ _ (i_s e3) (Or.inr ⟨rfl, fun z => hA ⟨z.1, (step.mp z.2).1⟩⟩)) ⟨rfl, rfl, rfl, rfl, trivial⟩
theorem iw_15 {P : Option Value → qq_w → Prop} {K : Nat → qq_L → List Value → qq_w → Prop} (S : qq_Sat ww_sh ww_ro cs_X8_isWhole (qq_at 115 kd_X8_isWhole) (some .boolean) P K) {w : qq_w} {N : Nat} (eN : w.1 8 8 = nI N) (hN : N ≤ 64) (hro : ∀ n, n < N → mRo w n)
    (h1 : (0 < w.1 8 2 ∧ ∀ c, c < N → w.1 43 c = 9 → mCW w c) → P (some (.int 1)) w) (h0 : ¬ (0 < w.1 8 2 ∧ ∀ c, c < N → w.1 43 c = 9 → mCW w c) → P (some (.int 0)) w) :
    ∀ m i, i + m = N → ∀ x1 x2 : Int32, x2 = nI i → (x1 = 1 ∧ (0 < w.1 8 2 ∧ ∀ c, c < i → w.1 43 c = 9 → mCW w c)) ∨ (x1 = 0 ∧ ¬ (0 < w.1 8 2 ∧ ∀ c, c < i → w.1 43 c = 9 → mCW w c)) → K 15 [(0, .ref 8), (1, .int x1), (2, .int x2)] [] w := by
  intro m
  induction m with
  | zero =>
    intro i hi x1 x2 e2 hx
    have : i = N := by omega
    subst this
    refine qq_go_ok S (fun pc => Nat.beq pc 15) 60 ?_
    conv => whnf
    refine br_t (i_ge' e2 eN (by omega) (by omega)) ?_
    rcases hx with ⟨rfl, hx⟩ | ⟨rfl, hx⟩
    · conv => whnf
      exact h1 hx
    · conv => whnf
      exact h0 hx
  | succ m ih =>
    intro i hi x1 x2 e2 hx
    have c43 : w.1 43 x2.toNatClampNeg = w.1 43 i := by rw [i_c e2 (by omega)]
    have c50 : w.1 50 x2.toNatClampNeg = w.1 50 i := by rw [i_c e2 (by omega)]
    have c47 : w.1 47 x2.toNatClampNeg = w.1 47 i := by rw [i_c e2 (by omega)]
    have hro' := hro i (by omega)
    have step : (0 < w.1 8 2 ∧ ∀ c, c < i + 1 → w.1 43 c = 9 → mCW w c) ↔ (0 < w.1 8 2 ∧ ∀ c, c < i → w.1 43 c = 9 → mCW w c) ∧ (w.1 43 i = 9 → mCW w i) := by
      constructor
      · rintro ⟨z1, z2⟩; exact ⟨⟨z1, fun c hc => z2 c (by omega)⟩, z2 i (by omega)⟩
      · rintro ⟨⟨z1, z2⟩, z3⟩
        refine ⟨z1, fun c hc => ?_⟩
        by_cases q : c = i
        · subst q; exact z3
        · exact z2 c (by omega)
    -- the inner loop, from 66 with the node's own count
    have inner : ∀ (A : Prop) (r : Nat), ((w.1 50 i = nI r ∧ r < 5) ∨ (w.1 50 i = -5 ∧ r = 0)) → ((A ∧ qq_full (w.1 51) (4 * i) r) ↔ (0 < w.1 8 2 ∧ ∀ c, c < i + 1 → w.1 43 c = 9 → mCW w c)) → ∀ x1 : Int32, (x1 = 1 ∧ A) ∨ (x1 = 0 ∧ ¬ A) → K 66 [(0, .ref 8), (1, .int x1), (2, .int x2), (3, .int 0)] [] w := by
      intro A r hr hA x1 hx1
      refine iw_66 S (A := A) e2 (by omega) hr (fun y hy => ih (i + 1) (by omega) y _ (i_s e2) ?_) r 0 (Nat.zero_add _) x1 0 rfl ?_
      · rcases hy with ⟨z1, z2⟩ | ⟨z1, z2⟩
        · exact Or.inl ⟨z1, hA.mp z2⟩
        · exact Or.inr ⟨z1, fun z => z2 (hA.mpr z)⟩
      · rcases hx1 with ⟨z1, z2⟩ | ⟨z1, z2⟩
        · exact Or.inl ⟨z1, z2, fun k hk => absurd hk (by omega)⟩
        · exact Or.inr ⟨z1, fun z => z2 z.1⟩
    refine qq_go_ok S (fun pc => Nat.beq pc 66 || Nat.beq pc 15) 60 ?_
    conv => whnf
    refine br_f (i_lt' e2 eN (by omega) (by omega)) ?_
    by_cases h9 : w.1 43 i = 9
    · obtain ⟨v50, v47⟩ := hro'.1 h9
      obtain ⟨e50, l50⟩ := qn_eq v50 (by decide)
      obtain ⟨e47, l47⟩ := qn_eq v47 (by decide)
      have IN := inner ((0 < w.1 8 2 ∧ ∀ c, c < i → w.1 43 c = 9 → mCW w c) ∧ w.1 50 i = w.1 38 (qn (w.1 47 i))) (qn (w.1 50 i)) (Or.inl ⟨e50, l50⟩) (by
        rw [step]
        constructor
        · rintro ⟨⟨z1, z2⟩, z3⟩; exact ⟨z1, fun _ => ⟨z3, z2⟩⟩
        · rintro ⟨z1, z2⟩; exact ⟨⟨z1, (z2 h9).2⟩, (z2 h9).1⟩)
      rcases hx with ⟨rfl, hx⟩ | ⟨rfl, hx⟩
      · conv => whnf
        refine br_f (by decide) ?_
        conv => whnf
        refine ⟨i_in 64 e2 (by omega) (by decide), ?_⟩
        conv => whnf
        refine br_nf (by show w.1 43 x2.toNatClampNeg = 9; rw [c43]; exact h9) ?_
        conv => whnf
        refine ⟨i_in 64 e2 (by omega) (by decide), ?_⟩
        conv => whnf
        refine ⟨i_in 64 e2 (by omega) (by decide), ?_⟩
        conv => whnf
        refine ⟨by show vp_in (w.1 47 x2.toNatClampNeg) 8; rw [c47]; exact v47, ?_⟩
        conv => whnf
        refine ⟨fun h => ?_, fun h => ?_⟩
        · have h : ¬ w.1 50 x2.toNatClampNeg = w.1 38 (qn (w.1 47 x2.toNatClampNeg)) := h
          rw [c50, c47] at h
          conv => whnf
          exact qq_wk S (IN 0 (Or.inr ⟨rfl, fun z => h z.2⟩)) ⟨rfl, rfl, rfl, rfl, trivial⟩
        · have h : w.1 50 x2.toNatClampNeg = w.1 38 (qn (w.1 47 x2.toNatClampNeg)) := h
          rw [c50, c47] at h
          conv => whnf
          exact qq_wk S (IN 1 (Or.inl ⟨rfl, hx, h⟩)) ⟨rfl, rfl, rfl, rfl, trivial⟩
      · conv => whnf
        refine br_t rfl ?_
        conv => whnf
        exact qq_wk S (IN 0 (Or.inr ⟨rfl, fun z => hx z.1⟩)) ⟨rfl, rfl, rfl, rfl, trivial⟩
    · have v50 := hro'.2 h9
      have IN := inner (0 < w.1 8 2 ∧ ∀ c, c < i → w.1 43 c = 9 → mCW w c) 0 (Or.inr ⟨v50, rfl⟩) (by
        rw [step]
        constructor
        · rintro ⟨z1, z2⟩; exact ⟨z1, fun z => absurd z h9⟩
        · rintro ⟨z1, z2⟩; exact ⟨z1, fun k hk => absurd hk (by omega)⟩)
      rcases hx with ⟨rfl, hx⟩ | ⟨rfl, hx⟩
      · conv => whnf
        refine br_f (by decide) ?_
        conv => whnf
        refine ⟨i_in 64 e2 (by omega) (by decide), ?_⟩
        conv => whnf
        refine br_nt (by show ¬ w.1 43 x2.toNatClampNeg = 9; rw [c43]; exact h9) ?_
        conv => whnf
        exact qq_wk S (IN 1 (Or.inl ⟨rfl, hx⟩)) ⟨rfl, rfl, rfl, rfl, trivial⟩
      · conv => whnf
        refine br_t rfl ?_
        conv => whnf
        exact qq_wk S (IN 0 (Or.inr ⟨rfl, hx⟩)) ⟨rfl, rfl, rfl, rfl, trivial⟩
set_option maxHeartbeats 4000000 in
set_option maxRecDepth 100000 in
theorem bd_X8_isWhole : ∀ As w P K, qq_Sat ww_sh ww_ro cs_X8_isWhole (qq_at 115 kd_X8_isWhole) (some .boolean) P K → T_X8_isWhole As w P → K 0 (lv_args 0 As) [] w := by
  intro As w P K S h
  unfold T_X8_isWhole at h
  split at h
  · skip
    obtain ⟨⟨hp, hro⟩, hq1, hq0⟩ := h
    obtain ⟨eN, hN⟩ := qn_eq hp (by decide)
    refine qq_go_ok S (fun pc => Nat.beq pc 15) 60 ?_
    conv => whnf
    have go := iw_15 S eN (by omega) hro hq1 hq0 (qn (w.1 8 8)) 0 (Nat.zero_add _)
    refine ⟨fun h => ?_, fun h => ?_⟩
    · have h : w.1 8 2 ≤ 0 := h
      conv => whnf
      refine qq_wk S (go 0 _ rfl (Or.inr ⟨rfl, fun z => ?_⟩)) ⟨rfl, rfl, rfl, trivial⟩
      rw [i_le] at h
      have z := z.1
      rw [i_lt] at z
      omega
    · have h : ¬ w.1 8 2 ≤ 0 := h
      conv => whnf
      refine qq_wk S (go 1 _ rfl (Or.inl ⟨rfl, ?_, fun c hc => absurd hc (by omega)⟩)) ⟨rfl, rfl, rfl, trivial⟩
      rw [i_le] at h
      rw [i_lt]
      omega
  · exact h.elim
theorem ha_X8_isWhole : ∀ As w P, T_X8_isWhole As w P → qq_wd As ≤ 4 := by
  intro As w P h
  unfold T_X8_isWhole at h
  split at h
  · exact Nat.le_of_ble_eq_true rfl
  · exact h.elim
theorem hv_X8_isWhole : ∀ As w P, T_X8_isWhole As w P → ∃ (k : Nat) (r : List Value) (fs : List Nat), As = .ref k :: r ∧ ww_sh[k]? = some (.inr (8, fs)) := by
  intro As w P h
  unfold T_X8_isWhole at h
  split at h
  · exact ⟨_, _, _, rfl, rfl⟩
  · exact h.elim
set_option maxRecDepth 100000 in
theorem M_X8_isWhole (l : Launch) : qq_M l ww_T ww_N vwCl ww_sh ww_ro ww_zs yX8_isWhole cX8_isWhole 4 (some .boolean) (ww_rm 0) T_X8_isWhole := by
  refine qq_mk (host := RX7) (is := ki_X8_isWhole) (cs := cs_X8_isWhole) (by decide) ww_k1 wl_X8 ww_so ww_so2 kc_X8_isWhole kv_X8_isWhole kg_X8_isWhole ?_ ha_X8_isWhole bd_X8_isWhole
  intro k i q hi hq
  simp [cs_X8_isWhole] at hq
