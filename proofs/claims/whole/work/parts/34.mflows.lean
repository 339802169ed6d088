/-- the reference's flows -/
def mStr (w : qq_w) (n : Nat) (f : Int32) : Int32 := if 3 ≤ w.1 43 n ∧ w.1 43 n ≤ 7 then ((if (w.1 43 n = 4 ∨ w.1 43 n = 5) ∧ w.1 45 n = w.1 44 n then mbit f else (if f = w.1 44 n then (0 : Int32) else mbit f) ||| (if (w.1 43 n = 4 ∨ w.1 43 n = 5) ∧ f = w.1 45 n then mbit (w.1 44 n) else 0)) ||| (if w.1 43 n = 5 ∧ f = w.1 46 n then mbit (w.1 44 n) else 0)) ||| (if w.1 43 n = 6 ∧ w.1 8 23 = 0 ∧ f = 0 then mbit (w.1 44 n) else 0) else mbit f
def mAcr (w : qq_w) (c : Nat) (f : Int32) : Int32 := if f = 0 then 1 else if f ≤ 4 ∨ f = w.1 48 c then 0 else mbit f
def mBk (w : qq_w) (c : Nat) (f : Int32) : Int32 := ((if f = 0 ∨ (¬ 4 < f ∧ ¬ f = w.1 48 c) then mbit f else 0) ||| (if ¬ f = 0 ∧ f = w.1 41 (qn (w.1 47 c)) then mbit (w.1 48 c) else 0)) ||| (if f = 0 ∧ w.1 41 (qn (w.1 47 c)) = -5 ∧ w.1 8 23 = 1 then mbit (w.1 48 c) else 0)
def mInto (w : qq_w) (c i g : Nat) : Prop := (i ≤ 4 ∧ g = i) ∨ (∃ k, k < qn (w.1 50 c) ∧ k < qn (w.1 38 (qn (w.1 47 c))) ∧ w.1 51 (4 * c + k) = nI i ∧ g = 5 + k) ∨ (w.1 8 23 = 1 ∧ i = 0 ∧ 5 + qn (w.1 38 (qn (w.1 47 c))) ≤ g ∧ g < 5 + qn (w.1 37 (qn (w.1 47 c))))
theorem mbit_nI {i : Nat} (hi : i < 31) (g : Nat) : bt (mbit (nI i)) g = decide (g = i) := by
  unfold mbit
  rw [if_neg, b_one hi]
  intro z
  have := nI_pos (n := i) (by omega)
  rw [z] at this
  exact this (by decide)
abbrev cs_X8_straight : List (Nat × qq_t) := [(3, T_X8_in), (1, T_X8_bit), (1, T_X8_hasY)]
def T_X8_straight : qq_t := fun As w P => match As with
  | [.ref 8, .int a, .int f] => vp_in a 64 ∧ P (some (.int (mStr w (qn a) f))) w
  | _ => False
theorem ms_125 {P : Option Value → qq_w → Prop} {K : Nat → qq_L → List Value → qq_w → Prop} (S : qq_Sat ww_sh ww_ro cs_X8_straight (qq_at 156 kd_X8_straight) (some .int) P K) {w : qq_w} {f k x b : Int32} (hq : P (some (.int (b ||| (if k = 6 ∧ w.1 8 23 = 0 ∧ f = 0 then mbit x else 0)))) w) : K 125 [(0, .ref 8), (2, .int f), (3, .int k), (4, .int x), (5, .int b)] [] w := by
  refine qq_go_ok S (fun _ => false) 40 ?_
  conv => whnf
  refine ⟨fun h => ?_, fun h => ?_⟩
  · conv => whnf
    rw [if_neg (fun z => h z.1), or0] at hq
    exact hq
  conv => whnf
  refine ⟨fun h2 => ?_, fun h2 => ?_⟩
  · conv => whnf
    rw [if_neg (fun z => h2 z.2.1), or0] at hq
    exact hq
  conv => whnf
  refine ⟨fun h3 => ?_, fun h3 => ?_⟩
  · conv => whnf
    rw [if_neg (fun z => h3 z.2.2), or0] at hq
    exact hq
  conv => whnf
  refine ⟨trivial, ?_⟩
  conv => whnf
  rw [if_pos ⟨h, h2, h3⟩] at hq
  exact hq
theorem ms_100 {P : Option Value → qq_w → Prop} {K : Nat → qq_L → List Value → qq_w → Prop} (S : qq_Sat ww_sh ww_ro cs_X8_straight (qq_at 156 kd_X8_straight) (some .int) P K) {w : qq_w} {a f k x b : Int32} {n : Nat} (ha : a = nI n) (hn : n < 64) (hq : P (some (.int ((b ||| (if k = 5 ∧ f = w.1 46 n then mbit x else 0)) ||| (if k = 6 ∧ w.1 8 23 = 0 ∧ f = 0 then mbit x else 0)))) w) : K 100 [(0, .ref 8), (1, .int a), (2, .int f), (3, .int k), (4, .int x), (5, .int b)] [] w := by
  have c : w.1 46 a.toNatClampNeg = w.1 46 n := by rw [i_c ha (by omega)]
  refine qq_go_ok S (fun pc => Nat.beq pc 125) 40 ?_
  conv => whnf
  refine ⟨fun h => ?_, fun h => ?_⟩
  · conv => whnf
    rw [if_neg (fun z : k = 5 ∧ f = w.1 46 n => h z.1), or0] at hq
    exact qq_wk S (ms_125 S hq) ⟨rfl, rfl, rfl, rfl, rfl, trivial⟩
  conv => whnf
  refine ⟨i_in 64 ha hn (by decide), ?_⟩
  conv => whnf
  refine ⟨fun h2 => ?_, fun h2 => ?_⟩
  · have h2 : ¬ f = w.1 46 a.toNatClampNeg := h2
    rw [c] at h2
    conv => whnf
    rw [if_neg (fun z : k = 5 ∧ f = w.1 46 n => h2 z.2), or0] at hq
    exact qq_wk S (ms_125 S hq) ⟨rfl, rfl, rfl, rfl, rfl, trivial⟩
  · have h2 : f = w.1 46 a.toNatClampNeg := h2
    rw [c] at h2
    conv => whnf
    refine ⟨trivial, ?_⟩
    conv => whnf
    rw [if_pos (⟨h, h2⟩ : k = 5 ∧ f = w.1 46 n)] at hq
    exact qq_wk S (ms_125 S hq) ⟨rfl, rfl, rfl, rfl, rfl, trivial⟩
theorem ms_46 {P : Option Value → qq_w → Prop} {K : Nat → qq_L → List Value → qq_w → Prop} (S : qq_Sat ww_sh ww_ro cs_X8_straight (qq_at 156 kd_X8_straight) (some .int) P K) {w : qq_w} {a f k x b : Int32} {n : Nat} (ha : a = nI n) (hn : n < 64) (hq : P (some (.int (((if (k = 4 ∨ k = 5) ∧ w.1 45 n = x then mbit f else b ||| (if (k = 4 ∨ k = 5) ∧ f = w.1 45 n then mbit x else 0)) ||| (if k = 5 ∧ f = w.1 46 n then mbit x else 0)) ||| (if k = 6 ∧ w.1 8 23 = 0 ∧ f = 0 then mbit x else 0)))) w) : K 46 [(0, .ref 8), (1, .int a), (2, .int f), (3, .int k), (4, .int x), (5, .int b)] [] w := by
  have c : w.1 45 a.toNatClampNeg = w.1 45 n := by rw [i_c ha (by omega)]
  refine qq_go_ok S (fun pc => Nat.beq pc 100) 40 ?_
  conv => whnf
  refine ⟨fun h => ?_, fun h => ?_⟩
  · conv => whnf
    refine br_f (by decide) ?_
    conv => whnf
    refine ⟨i_in 64 ha hn (by decide), ?_⟩
    conv => whnf
    refine ⟨fun h2 => ?_, fun h2 => ?_⟩
    · have h2 : ¬ w.1 45 a.toNatClampNeg = x := h2
      rw [c] at h2
      rw [if_neg (fun z : (k = 4 ∨ k = 5) ∧ w.1 45 n = x => h2 z.2)] at hq
      conv => whnf
      refine ⟨fun _ => ?_, fun h' => absurd h h'⟩
      conv => whnf
      refine br_f (by decide) ?_
      conv => whnf
      refine ⟨i_in 64 ha hn (by decide), ?_⟩
      conv => whnf
      refine ⟨fun h3 => ?_, fun h3 => ?_⟩
      · have h3 : ¬ f = w.1 45 a.toNatClampNeg := h3
        rw [c] at h3
        conv => whnf
        rw [if_neg (fun z : (k = 4 ∨ k = 5) ∧ f = w.1 45 n => h3 z.2), or0] at hq
        exact qq_wk S (ms_100 S ha hn hq) ⟨rfl, rfl, rfl, rfl, rfl, rfl, trivial⟩
      · have h3 : f = w.1 45 a.toNatClampNeg := h3
        rw [c] at h3
        conv => whnf
        refine ⟨trivial, ?_⟩
        conv => whnf
        rw [if_pos (⟨h, h3⟩ : (k = 4 ∨ k = 5) ∧ f = w.1 45 n)] at hq
        exact qq_wk S (ms_100 S ha hn hq) ⟨rfl, rfl, rfl, rfl, rfl, rfl, trivial⟩
    · have h2 : w.1 45 a.toNatClampNeg = x := h2
      rw [c] at h2
      rw [if_pos (⟨h, h2⟩ : (k = 4 ∨ k = 5) ∧ w.1 45 n = x)] at hq
      conv => whnf
      refine ⟨trivial, ?_⟩
      conv => whnf
      exact qq_wk S (ms_100 S ha hn hq) ⟨rfl, rfl, rfl, rfl, rfl, rfl, trivial⟩
  · conv => whnf
    refine br_t rfl ?_
    conv => whnf
    refine ⟨fun h' => absurd h' h, fun _ => ?_⟩
    conv => whnf
    refine br_t rfl ?_
    conv => whnf
    rw [if_neg (fun z : (k = 4 ∨ k = 5) ∧ w.1 45 n = x => h z.1), if_neg (fun z : (k = 4 ∨ k = 5) ∧ f = w.1 45 n => h z.1), or0] at hq
    exact qq_wk S (ms_100 S ha hn hq) ⟨rfl, rfl, rfl, rfl, rfl, rfl, trivial⟩
set_option maxHeartbeats 4000000 in
set_option maxRecDepth 100000 in
theorem bd_X8_straight : ∀ As w P K, qq_Sat ww_sh ww_ro cs_X8_straight (qq_at 156 kd_X8_straight) (some .int) P K → T_X8_straight As w P → K 0 (lv_args 0 As) [] w := by
  intro As w P K S h
  unfold T_X8_straight at h
  split at h
  · rename_i a f
    obtain ⟨hp, hq⟩ := h
    obtain ⟨ea, ha⟩ := qn_eq hp (by decide)
    have ck : w.1 43 a.toNatClampNeg = w.1 43 (qn a) := rfl
    have cx : w.1 44 a.toNatClampNeg = w.1 44 (qn a) := rfl
    unfold mStr at hq
    refine qq_go_ok S (fun pc => Nat.beq pc 46) 60 ?_
    conv => whnf
    refine ⟨i_in 64 ea ha (by decide), ?_⟩
    conv => whnf
    refine ⟨i_in 64 ea ha (by decide), ?_⟩
    conv => whnf
    refine ⟨fun h => ?_, fun h => ?_⟩
    · have h : 3 ≤ w.1 43 (qn a) ∧ w.1 43 (qn a) ≤ 7 := h
      rw [if_pos h] at hq
      conv => whnf
      refine br_nt (by decide) ?_
      conv => whnf
      refine ⟨fun h2 => ?_, fun h2 => ?_⟩
      · have h2 : ¬ f = w.1 44 (qn a) := h2
        rw [if_neg h2] at hq
        conv => whnf
        refine ⟨trivial, ?_⟩
        conv => whnf
        exact qq_wk S (ms_46 S ea ha hq) ⟨rfl, rfl, rfl, rfl, rfl, rfl, trivial⟩
      · have h2 : f = w.1 44 (qn a) := h2
        rw [if_pos h2] at hq
        conv => whnf
        exact qq_wk S (ms_46 S ea ha hq) ⟨rfl, rfl, rfl, rfl, rfl, rfl, trivial⟩
    · have h : ¬ (3 ≤ w.1 43 (qn a) ∧ w.1 43 (qn a) ≤ 7) := h
      rw [if_neg h] at hq
      conv => whnf
      refine br_nf rfl ?_
      conv => whnf
      refine ⟨trivial, ?_⟩
      conv => whnf
      exact hq
  · exact h.elim
theorem ha_X8_straight : ∀ As w P, T_X8_straight As w P → qq_wd As ≤ 6 := by
  intro As w P h
  unfold T_X8_straight at h
  split at h
  · exact Nat.le_of_ble_eq_true rfl
  · exact h.elim
theorem hv_X8_straight : ∀ As w P, T_X8_straight As w P → ∃ (k : Nat) (r : List Value) (fs : List Nat), As = .ref k :: r ∧ ww_sh[k]? = some (.inr (8, fs)) := by
  intro As w P h
  unfold T_X8_straight at h
  split at h
  · exact ⟨_, _, _, rfl, rfl⟩
  · exact h.elim
set_option maxRecDepth 100000 in
theorem M_X8_straight (l : Launch) : qq_M l ww_T ww_N vwCl ww_sh ww_ro ww_zs yX8_straight cX8_straight 6 (some .int) (ww_rm 1) T_X8_straight := by
  refine qq_mk (host := RX7) (is := ki_X8_straight) (cs := cs_X8_straight) (by decide) ww_k1 wl_X8 ww_so ww_so2 kc_X8_straight kv_X8_straight kg_X8_straight ?_ ha_X8_straight bd_X8_straight
  intro k i q hi hq
  match k, hi, hq with
  | 0, hi, hq => cases hi; cases hq; exact fun p e s m args below meth c D tys tC ad Q pc X hdg => qq_cS X ww_gd (M_X8_in l) kf_X8_in.1 (Or.inl (ww_a5 (i := 76) (w := Cond.methodLink RX8 105 yX8_in) rfl rfl)) kf_X8_in.2.1 kf_X8_in.2.2 ⟨by decide, by decide, by decide +kernel⟩ rfl rfl ⟨by decide, by decide⟩ ⟨Nat.le_refl _, Nat.le_refl _⟩ hdg
  | 1, hi, hq => cases hi; cases hq; exact fun p e s m args below meth c D tys tC ad Q pc X hdg => qq_cS X ww_gd (M_X8_bit l) kf_X8_bit.1 (Or.inl (ww_a5 (i := 191) (w := Cond.methodLink RX8 169 yX8_bit) rfl rfl)) kf_X8_bit.2.1 kf_X8_bit.2.2 ⟨by decide, by decide, by decide +kernel⟩ rfl rfl ⟨by decide, by decide⟩ ⟨Nat.le_refl _, Nat.le_refl _⟩ hdg
  | 2, hi, hq => cases hi; cases hq; exact fun p e s m args below meth c D tys tC ad Q pc X hdg => qq_cS X ww_gd (M_X8_hasY l) kf_X8_hasY.1 (Or.inl (ww_a5 (i := 110) (w := Cond.methodLink RX8 134 yX8_hasY) rfl rfl)) kf_X8_hasY.2.1 kf_X8_hasY.2.2 ⟨by decide, by decide, by decide +kernel⟩ rfl rfl ⟨by decide, by decide⟩ ⟨Nat.le_refl _, Nat.le_refl _⟩ hdg
  | n + 3, hi, hq => simp [cs_X8_straight] at hq
abbrev cs_X8_across : List (Nat × qq_t) := [(1, T_X8_bit)]
def T_X8_across : qq_t := fun As w P => match As with
  | [.ref 8, .int a, .int f] => vp_in a 64 ∧ P (some (.int (mAcr w (qn a) f))) w
  | _ => False
set_option maxHeartbeats 4000000 in
set_option maxRecDepth 100000 in
theorem bd_X8_across : ∀ As w P K, qq_Sat ww_sh ww_ro cs_X8_across (qq_at 32 kd_X8_across) (some .int) P K → T_X8_across As w P → K 0 (lv_args 0 As) [] w := by
  intro As w P K S h
  unfold T_X8_across at h
  split at h
  · rename_i a f
    obtain ⟨hp, hq⟩ := h
    unfold mAcr at hq
    refine qq_go_ok S (fun _ => false) 60 ?_
    conv => whnf
    refine ⟨fun h => ?_, fun h => ?_⟩
    · rw [if_neg h] at hq
      conv => whnf
      refine ⟨fun h4 => ?_, fun h4 => ?_⟩
      · conv => whnf
        rw [if_pos (Or.inl h4)] at hq
        exact hq
      conv => whnf
      refine ⟨hp, ?_⟩
      conv => whnf
      refine ⟨fun h6 => ?_, fun h6 => ?_⟩
      · have h6 : ¬ f = w.1 48 (qn a) := h6
        rw [if_neg (fun z => z.elim h4 h6)] at hq
        conv => whnf
        refine ⟨trivial, ?_⟩
        conv => whnf
        exact hq
      · have h6 : f = w.1 48 (qn a) := h6
        rw [if_pos (Or.inr h6)] at hq
        conv => whnf
        exact hq
    · rw [if_pos h] at hq
      conv => whnf
      exact hq
  · exact h.elim
theorem ha_X8_across : ∀ As w P, T_X8_across As w P → qq_wd As ≤ 3 := by
  intro As w P h
  unfold T_X8_across at h
  split at h
  · exact Nat.le_of_ble_eq_true rfl
  · exact h.elim
theorem hv_X8_across : ∀ As w P, T_X8_across As w P → ∃ (k : Nat) (r : List Value) (fs : List Nat), As = .ref k :: r ∧ ww_sh[k]? = some (.inr (8, fs)) := by
  intro As w P h
  unfold T_X8_across at h
  split at h
  · exact ⟨_, _, _, rfl, rfl⟩
  · exact h.elim
set_option maxRecDepth 100000 in
theorem M_X8_across (l : Launch) : qq_M l ww_T ww_N vwCl ww_sh ww_ro ww_zs yX8_across cX8_across 3 (some .int) (ww_rm 1) T_X8_across := by
  refine qq_mk (host := RX7) (is := ki_X8_across) (cs := cs_X8_across) (by decide) ww_k1 wl_X8 ww_so ww_so2 kc_X8_across kv_X8_across kg_X8_across ?_ ha_X8_across bd_X8_across
  intro k i q hi hq
  match k, hi, hq with
  | 0, hi, hq => cases hi; cases hq; exact fun p e s m args below meth c D tys tC ad Q pc X hdg => qq_cS X ww_gd (M_X8_bit l) kf_X8_bit.1 (Or.inl (ww_a5 (i := 191) (w := Cond.methodLink RX8 169 yX8_bit) rfl rfl)) kf_X8_bit.2.1 kf_X8_bit.2.2 ⟨by decide, by decide, by decide +kernel⟩ rfl rfl ⟨by decide, by decide⟩ ⟨Nat.le_refl _, Nat.le_refl _⟩ hdg
  | n + 1, hi, hq => simp [cs_X8_across] at hq
abbrev cs_X8_back : List (Nat × qq_t) := [(1, T_X8_bit)]
def T_X8_back : qq_t := fun As w P => match As with
  | [.ref 8, .int a, .int f] => (vp_in a 64 ∧ vp_in (w.1 47 (qn a)) 8) ∧ P (some (.int (mBk w (qn a) f))) w
  | _ => False
theorem mb_68 {P : Option Value → qq_w → Prop} {K : Nat → qq_L → List Value → qq_w → Prop} (S : qq_Sat ww_sh ww_ro cs_X8_back (qq_at 103 kd_X8_back) (some .int) P K) {w : qq_w} {a f o b : Int32} (ha : vp_in a 64) (hq : P (some (.int (b ||| (if f = 0 ∧ o = -5 ∧ w.1 8 23 = 1 then mbit (w.1 48 (qn a)) else 0)))) w) : K 68 [(0, .ref 8), (1, .int a), (2, .int f), (3, .int o), (4, .int b)] [] w := by
  refine qq_go_ok S (fun _ => false) 40 ?_
  conv => whnf
  refine ⟨fun h => ?_, fun h => ?_⟩
  · conv => whnf
    rw [if_neg (fun z => h z.1)] at hq
    exact hq
  conv => whnf
  refine ⟨fun h2 => ?_, fun h2 => ?_⟩
  · conv => whnf
    rw [if_neg (fun z => h2 z.2.1)] at hq
    exact hq
  conv => whnf
  refine ⟨fun h3 => ?_, fun h3 => ?_⟩
  · conv => whnf
    rw [if_neg (fun z => h3 z.2.2)] at hq
    exact hq
  conv => whnf
  refine ⟨ha, ?_⟩
  conv => whnf
  refine ⟨trivial, ?_⟩
  conv => whnf
  rw [if_pos ⟨h, h2, h3⟩] at hq
  exact hq
theorem mb_41 {P : Option Value → qq_w → Prop} {K : Nat → qq_L → List Value → qq_w → Prop} (S : qq_Sat ww_sh ww_ro cs_X8_back (qq_at 103 kd_X8_back) (some .int) P K) {w : qq_w} {a f o b : Int32} (ha : vp_in a 64) (hq : P (some (.int ((b ||| (if ¬ f = 0 ∧ f = o then mbit (w.1 48 (qn a)) else 0)) ||| (if f = 0 ∧ o = -5 ∧ w.1 8 23 = 1 then mbit (w.1 48 (qn a)) else 0)))) w) : K 41 [(0, .ref 8), (1, .int a), (2, .int f), (3, .int o), (4, .int b)] [] w := by
  refine qq_go_ok S (fun pc => Nat.beq pc 68) 40 ?_
  conv => whnf
  refine ⟨fun h => ?_, fun h => ?_⟩
  · conv => whnf
    rw [if_neg (fun z : ¬ f = 0 ∧ f = o => z.1 h)] at hq
    exact qq_wk S (mb_68 S ha hq) ⟨rfl, rfl, rfl, rfl, rfl, trivial⟩
  conv => whnf
  refine ⟨fun h2 => ?_, fun h2 => ?_⟩
  · conv => whnf
    rw [if_neg (fun z : ¬ f = 0 ∧ f = o => h2 z.2)] at hq
    exact qq_wk S (mb_68 S ha hq) ⟨rfl, rfl, rfl, rfl, rfl, trivial⟩
  · conv => whnf
    refine ⟨ha, ?_⟩
    conv => whnf
    refine ⟨trivial, ?_⟩
    conv => whnf
    rw [if_pos (⟨h, h2⟩ : ¬ f = 0 ∧ f = o)] at hq
    exact qq_wk S (mb_68 S ha hq) ⟨rfl, rfl, rfl, rfl, rfl, trivial⟩
set_option maxHeartbeats 4000000 in
set_option maxRecDepth 100000 in
theorem bd_X8_back : ∀ As w P K, qq_Sat ww_sh ww_ro cs_X8_back (qq_at 103 kd_X8_back) (some .int) P K → T_X8_back As w P → K 0 (lv_args 0 As) [] w := by
  intro As w P K S h
  unfold T_X8_back at h
  split at h
  · rename_i a f
    obtain ⟨⟨hp, hp2⟩, hq⟩ := h
    unfold mBk at hq
    refine qq_go_ok S (fun pc => Nat.beq pc 41) 60 ?_
    conv => whnf
    refine ⟨hp, ?_⟩
    conv => whnf
    refine ⟨hp2, ?_⟩
    conv => whnf
    have yes : (f = 0 ∨ (¬ 4 < f ∧ ¬ f = w.1 48 (qn a))) → K 41 [(0, .ref 8), (1, .int a), (2, .int f), (3, .int (w.1 41 (qn (w.1 47 (qn a))))), (4, .int (mbit f))] [] w := fun z => by
      rw [if_pos z] at hq
      exact mb_41 S hp hq
    have no : ¬ (f = 0 ∨ (¬ 4 < f ∧ ¬ f = w.1 48 (qn a))) → K 41 [(0, .ref 8), (1, .int a), (2, .int f), (3, .int (w.1 41 (qn (w.1 47 (qn a))))), (4, .int 0)] [] w := fun z => by
      rw [if_neg z] at hq
      exact mb_41 S hp hq
    refine ⟨fun h => ?_, fun h => ?_⟩
    · conv => whnf
      refine ⟨trivial, ?_⟩
      conv => whnf
      exact qq_wk S (yes (Or.inl h)) ⟨rfl, rfl, rfl, rfl, rfl, trivial⟩
    conv => whnf
    refine ⟨fun h4 => ?_, fun h4 => ?_⟩
    · conv => whnf
      exact qq_wk S (no (fun z => z.elim h (fun y => y.1 h4))) ⟨rfl, rfl, rfl, rfl, rfl, trivial⟩
    conv => whnf
    refine ⟨hp, ?_⟩
    conv => whnf
    refine ⟨fun h6 => ?_, fun h6 => ?_⟩
    · have h6 : f = w.1 48 (qn a) := h6
      conv => whnf
      exact qq_wk S (no (fun z => z.elim h (fun y => y.2 h6))) ⟨rfl, rfl, rfl, rfl, rfl, trivial⟩
    · have h6 : ¬ f = w.1 48 (qn a) := h6
      conv => whnf
      refine ⟨trivial, ?_⟩
      conv => whnf
      exact qq_wk S (yes (Or.inr ⟨h4, h6⟩)) ⟨rfl, rfl, rfl, rfl, rfl, trivial⟩
  · exact h.elim
theorem ha_X8_back : ∀ As w P, T_X8_back As w P → qq_wd As ≤ 5 := by
  intro As w P h
  unfold T_X8_back at h
  split at h
  · exact Nat.le_of_ble_eq_true rfl
  · exact h.elim
theorem hv_X8_back : ∀ As w P, T_X8_back As w P → ∃ (k : Nat) (r : List Value) (fs : List Nat), As = .ref k :: r ∧ ww_sh[k]? = some (.inr (8, fs)) := by
  intro As w P h
  unfold T_X8_back at h
  split at h
  · exact ⟨_, _, _, rfl, rfl⟩
  · exact h.elim
set_option maxRecDepth 100000 in
theorem M_X8_back (l : Launch) : qq_M l ww_T ww_N vwCl ww_sh ww_ro ww_zs yX8_back cX8_back 5 (some .int) (ww_rm 1) T_X8_back := by
  refine qq_mk (host := RX7) (is := ki_X8_back) (cs := cs_X8_back) (by decide) ww_k1 wl_X8 ww_so ww_so2 kc_X8_back kv_X8_back kg_X8_back ?_ ha_X8_back bd_X8_back
  intro k i q hi hq
  match k, hi, hq with
  | 0, hi, hq => cases hi; cases hq; exact fun p e s m args below meth c D tys tC ad Q pc X hdg => qq_cS X ww_gd (M_X8_bit l) kf_X8_bit.1 (Or.inl (ww_a5 (i := 191) (w := Cond.methodLink RX8 169 yX8_bit) rfl rfl)) kf_X8_bit.2.1 kf_X8_bit.2.2 ⟨by decide, by decide, by decide +kernel⟩ rfl rfl ⟨by decide, by decide⟩ ⟨Nat.le_refl _, Nat.le_refl _⟩ hdg
  | n + 1, hi, hq => simp [cs_X8_back] at hq
abbrev cs_X8_holdingAt : List (Nat × qq_t) := []
def T_X8_holdingAt : qq_t := fun As w P => match As with
  | [.ref 8, .int a] => vp_in a 64 ∧ P (some (.int (qq_or (w.1 56) (13 * qn a) 13))) w
  | _ => False
theorem nI_mr {a : Int32} {n i c : Nat} (ha : a = nI n) {x : Int32} (hx : x = nI i) {k : Int32} (hk : k = nI c) : k * a + x = nI (c * n + i) := by
  rw [ha, hx, hk, pk_mul, nI_add]
theorem lp_holdingAt {P : Option Value → qq_w → Prop} {K : Nat → qq_L → List Value → qq_w → Prop} (S : qq_Sat ww_sh ww_ro cs_X8_holdingAt (qq_at 32 kd_X8_holdingAt) (some .int) P K) {w : qq_w} {a : Int32} {n : Nat} (ha : a = nI n) (hn : n < 64) (hq : P (some (.int (qq_or (w.1 56) (13 * n) 13))) w) :
    ∀ m i, i + m = 13 → ∀ x2 x3 : Int32, x3 = nI i → x2 = qq_or (w.1 56) (13 * n) i → K 4 [(0, .ref 8), (1, .int a), (2, .int x2), (3, .int x3)] [] w := by
  intro m
  induction m with
  | zero =>
    intro i hi x2 x3 e3 e2
    refine qq_go_ok S (fun pc => Nat.beq pc 4) 30 ?_
    conv => whnf
    refine br_t (i_ge 13 e3 (by omega) (by omega)) ?_
    conv => whnf
    rw [e2, show i = 13 by omega]
    exact hq
  | succ m ih =>
    intro i hi x2 x3 e3 e2
    refine qq_go_ok S (fun pc => Nat.beq pc 4) 30 ?_
    conv => whnf
    refine br_f (i_nge 13 e3 (by omega) (by omega)) ?_
    conv => whnf
    have e := nI_mr ha e3 (nI_lit 13)
    refine ⟨i_in 832 e (by omega) (by decide), ?_⟩
    conv => whnf
    refine qq_wk S (ih (i + 1) (by omega) _ _ (i_s e3) ?_) ⟨rfl, rfl, rfl, rfl, trivial⟩
    rw [e2]
    show _ ||| w.1 56 (13 * a + x3).toNatClampNeg = _
    rw [i_c e (by omega)]
    rfl
set_option maxHeartbeats 4000000 in
set_option maxRecDepth 100000 in
theorem bd_X8_holdingAt : ∀ As w P K, qq_Sat ww_sh ww_ro cs_X8_holdingAt (qq_at 32 kd_X8_holdingAt) (some .int) P K → T_X8_holdingAt As w P → K 0 (lv_args 0 As) [] w := by
  intro As w P K S h
  unfold T_X8_holdingAt at h
  split at h
  · rename_i a
    obtain ⟨hp, hq⟩ := h
    obtain ⟨ea, ha⟩ := qn_eq hp (by decide)
    refine qq_go_ok S (fun pc => Nat.beq pc 4) 30 ?_
    conv => whnf
    exact qq_wk S (lp_holdingAt S ea ha hq 13 0 rfl _ _ rfl rfl) ⟨rfl, rfl, rfl, rfl, trivial⟩
  · exact h.elim
theorem ha_X8_holdingAt : ∀ As w P, T_X8_holdingAt As w P → qq_wd As ≤ 4 := by
  intro As w P h
  unfold T_X8_holdingAt at h
  split at h
  · exact Nat.le_of_ble_eq_true rfl
  · exact h.elim
theorem hv_X8_holdingAt : ∀ As w P, T_X8_holdingAt As w P → ∃ (k : Nat) (r : List Value) (fs : List Nat), As = .ref k :: r ∧ ww_sh[k]? = some (.inr (8, fs)) := by
  intro As w P h
  unfold T_X8_holdingAt at h
  split at h
  · exact ⟨_, _, _, rfl, rfl⟩
  · exact h.elim
set_option maxRecDepth 100000 in
theorem M_X8_holdingAt (l : Launch) : qq_M l ww_T ww_N vwCl ww_sh ww_ro ww_zs yX8_holdingAt cX8_holdingAt 4 (some .int) (ww_rm 0) T_X8_holdingAt := by
  refine qq_mk (host := RX7) (is := ki_X8_holdingAt) (cs := cs_X8_holdingAt) (by decide) ww_k1 wl_X8 ww_so ww_so2 kc_X8_holdingAt kv_X8_holdingAt kg_X8_holdingAt ?_ ha_X8_holdingAt bd_X8_holdingAt
  intro k i q hi hq
  simp [cs_X8_holdingAt] at hq
abbrev cs_X8_holdsAt : List (Nat × qq_t) := []
/-- a fact holds at a node, by the reference's paths -/
def mHolds (w : qq_w) (n f : Nat) : Prop := ∃ d, d < 13 ∧ bt (w.1 56 (13 * n + d)) f = true
def T_X8_holdsAt : qq_t := fun As w P => match As with
  | [.ref 8, .int a, .int f] => (vp_in a 64 ∧ vp_in f 13) ∧ (mHolds w (qn a) (qn f) → P (some (.int 1)) w) ∧ (¬ mHolds w (qn a) (qn f) → P (some (.int 0)) w)
  | _ => False
theorem lp_holdsAt {P : Option Value → qq_w → Prop} {K : Nat → qq_L → List Value → qq_w → Prop} (S : qq_Sat ww_sh ww_ro cs_X8_holdsAt (qq_at 50 kd_X8_holdsAt) (some .boolean) P K) {w : qq_w} {a f : Int32} {n j : Nat} (ha : a = nI n) (hn : n < 64) (hf : f = nI j) (hj : j < 13) (h1 : mHolds w n j → P (some (.int 1)) w) (h0 : ¬ mHolds w n j → P (some (.int 0)) w) :
    ∀ m i, i + m = 13 → ∀ x3 x4 : Int32, x4 = nI i → (x3 = 1 ∧ mHolds w n j) ∨ (x3 = 0 ∧ ∀ d, d < i → ¬ bt (w.1 56 (13 * n + d)) j = true) → K 5 [(0, .ref 8), (1, .int a), (2, .int f), (3, .int x3), (4, .int x4)] [] w := by
  intro m
  induction m with
  | zero =>
    intro i hi x3 x4 e4 h
    refine qq_go_ok S (fun pc => Nat.beq pc 5) 40 ?_
    conv => whnf
    refine br_t (i_ge 13 e4 (by omega) (by omega)) ?_
    rcases h with ⟨rfl, h⟩ | ⟨rfl, h⟩
    · conv => whnf
      exact h1 h
    · conv => whnf
      refine h0 ?_
      rintro ⟨d, z1, z2⟩
      exact h d (by omega) z2
  | succ m ih =>
    intro i hi x3 x4 e4 h
    refine qq_go_ok S (fun pc => Nat.beq pc 5) 40 ?_
    conv => whnf
    refine br_f (i_nge 13 e4 (by omega) (by omega)) ?_
    rcases h with ⟨rfl, h⟩ | ⟨rfl, h⟩
    · conv => whnf
      refine br_nt (by decide) ?_
      conv => whnf
      exact qq_wk S (ih (i + 1) (by omega) _ _ (i_s e4) (Or.inl ⟨rfl, h⟩)) ⟨rfl, rfl, rfl, rfl, rfl, trivial⟩
    · conv => whnf
      refine br_nf rfl ?_
      conv => whnf
      have e := nI_mr ha e4 (nI_lit 13)
      refine ⟨i_in 832 e (by omega) (by decide), ?_⟩
      conv => whnf
      have hb' : ((w.1 56 (13 * a + x4).toNatClampNeg) >>> (f &&& 31)) &&& 1 = 1 ↔ bt (w.1 56 (13 * n + i)) j = true := by rw [i_c e (by omega), hf]; exact b_has1 (by omega) _
      refine ⟨fun h2 => ?_, fun h2 => ?_⟩
      · conv => whnf
        have h2 : ¬ bt (w.1 56 (13 * n + i)) j = true := fun z => h2 (hb'.mpr z)
        refine qq_wk S (ih (i + 1) (by omega) _ _ (i_s e4) (Or.inr ⟨rfl, fun d hd => ?_⟩)) ⟨rfl, rfl, rfl, rfl, rfl, trivial⟩
        by_cases q : d = i
        · rw [q]; exact h2
        · exact h d (by omega)
      · conv => whnf
        exact qq_wk S (ih (i + 1) (by omega) _ _ (i_s e4) (Or.inl ⟨rfl, i, by omega, hb'.mp h2⟩)) ⟨rfl, rfl, rfl, rfl, rfl, trivial⟩
set_option maxHeartbeats 4000000 in
set_option maxRecDepth 100000 in
theorem bd_X8_holdsAt : ∀ As w P K, qq_Sat ww_sh ww_ro cs_X8_holdsAt (qq_at 50 kd_X8_holdsAt) (some .boolean) P K → T_X8_holdsAt As w P → K 0 (lv_args 0 As) [] w := by
  intro As w P K S h
  unfold T_X8_holdsAt at h
  split at h
  · rename_i a f
    obtain ⟨⟨hp, hp2⟩, hq1, hq0⟩ := h
    obtain ⟨ea, ha⟩ := qn_eq hp (by decide)
    obtain ⟨ef, hf⟩ := qn_eq hp2 (by decide)
    refine qq_go_ok S (fun pc => Nat.beq pc 5) 30 ?_
    conv => whnf
    exact qq_wk S (lp_holdsAt S ea ha ef hf hq1 hq0 13 0 rfl _ _ rfl (Or.inr ⟨rfl, fun d z => absurd z (by omega)⟩)) ⟨rfl, rfl, rfl, rfl, rfl, trivial⟩
  · exact h.elim
theorem ha_X8_holdsAt : ∀ As w P, T_X8_holdsAt As w P → qq_wd As ≤ 5 := by
  intro As w P h
  unfold T_X8_holdsAt at h
  split at h
  · exact Nat.le_of_ble_eq_true rfl
  · exact h.elim
theorem hv_X8_holdsAt : ∀ As w P, T_X8_holdsAt As w P → ∃ (k : Nat) (r : List Value) (fs : List Nat), As = .ref k :: r ∧ ww_sh[k]? = some (.inr (8, fs)) := by
  intro As w P h
  unfold T_X8_holdsAt at h
  split at h
  · exact ⟨_, _, _, rfl, rfl⟩
  · exact h.elim
set_option maxRecDepth 100000 in
theorem M_X8_holdsAt (l : Launch) : qq_M l ww_T ww_N vwCl ww_sh ww_ro ww_zs yX8_holdsAt cX8_holdsAt 5 (some .boolean) (ww_rm 0) T_X8_holdsAt := by
  refine qq_mk (host := RX7) (is := ki_X8_holdsAt) (cs := cs_X8_holdsAt) (by decide) ww_k1 wl_X8 ww_so ww_so2 kc_X8_holdsAt kv_X8_holdsAt kg_X8_holdsAt ?_ ha_X8_holdsAt bd_X8_holdsAt
  intro k i q hi hq
  simp [cs_X8_holdsAt] at hq
