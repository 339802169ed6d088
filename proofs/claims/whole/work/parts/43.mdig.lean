abbrev cs_X8_tells : List (Nat × qq_t) := []
/-- what the reference tells of a node -/
def mTell (w : qq_w) (n j : Nat) : Int32 := match j with
  | 0 => w.1 42 n
  | 1 => w.1 43 n
  | 2 => w.1 44 n
  | 3 => w.1 45 n
  | 4 => w.1 46 n
  | 5 => w.1 47 n
  | 6 => w.1 48 n
  | 7 => if w.1 43 n = 9 then w.1 49 n else -5
  | 8 => w.1 50 n
  | _ => if w.1 43 n = 10 then w.1 49 n else -5
def T_X8_tells : qq_t := fun As w P => match As with
  | [.ref 8, .int a, .int j] => (vp_in a 64 ∧ vp_in j 10) ∧ P (some (.int (mTell w (qn a) (qn j)))) w
  | _ => False
set_option maxHeartbeats 4000000 in
set_option maxRecDepth 100000 in
theorem bd_X8_tells : ∀ As w P K, qq_Sat ww_sh ww_ro cs_X8_tells (qq_at 154 kd_X8_tells) (some .int) P K → T_X8_tells As w P → K 0 (lv_args 0 As) [] w := by
  intro As w P K S h
  unfold T_X8_tells at h
  split at h
  · rename_i a j
    obtain ⟨⟨hp, hj⟩, hq⟩ := h
    obtain ⟨ej, hj⟩ := qn_eq hj (by decide)
    generalize qn j = k at *
    subst ej
    have hk : k = 0 ∨ k = 1 ∨ k = 2 ∨ k = 3 ∨ k = 4 ∨ k = 5 ∨ k = 6 ∨ k = 7 ∨ k = 8 ∨ k = 9 := by omega
    rcases hk with rfl | rfl | rfl | rfl | rfl | rfl | rfl | rfl | rfl | rfl
    · refine qq_go_ok S (fun _ => false) 60 ?_
      conv => whnf
      refine br_t (by decide) ?_
      conv => whnf
      refine ⟨hp, ?_⟩
      conv => whnf
      exact hq
    · refine qq_go_ok S (fun _ => false) 60 ?_
      conv => whnf
      refine br_f (by decide) ?_
      conv => whnf
      refine br_t (by decide) ?_
      conv => whnf
      refine ⟨hp, ?_⟩
      conv => whnf
      exact hq
    · refine qq_go_ok S (fun _ => false) 60 ?_
      conv => whnf
      refine br_f (by decide) ?_
      conv => whnf
      refine br_f (by decide) ?_
      conv => whnf
      refine br_t (by decide) ?_
      conv => whnf
      refine ⟨hp, ?_⟩
      conv => whnf
      exact hq
    · refine qq_go_ok S (fun _ => false) 60 ?_
      conv => whnf
      refine br_f (by decide) ?_
      conv => whnf
      refine br_f (by decide) ?_
      conv => whnf
      refine br_f (by decide) ?_
      conv => whnf
      refine br_t (by decide) ?_
      conv => whnf
      refine ⟨hp, ?_⟩
      conv => whnf
      exact hq
    · refine qq_go_ok S (fun _ => false) 60 ?_
      conv => whnf
      refine br_f (by decide) ?_
      conv => whnf
      refine br_f (by decide) ?_
      conv => whnf
      refine br_f (by decide) ?_
      conv => whnf
      refine br_f (by decide) ?_
      conv => whnf
      refine br_t (by decide) ?_
      conv => whnf
      refine ⟨hp, ?_⟩
      conv => whnf
      exact hq
    · refine qq_go_ok S (fun _ => false) 60 ?_
      conv => whnf
      refine br_f (by decide) ?_
      conv => whnf
      refine br_f (by decide) ?_
      conv => whnf
      refine br_f (by decide) ?_
      conv => whnf
      refine br_f (by decide) ?_
      conv => whnf
      refine br_f (by decide) ?_
      conv => whnf
      refine br_t (by decide) ?_
      conv => whnf
      refine ⟨hp, ?_⟩
      conv => whnf
      exact hq
    · refine qq_go_ok S (fun _ => false) 60 ?_
      conv => whnf
      refine br_f (by decide) ?_
      conv => whnf
      refine br_f (by decide) ?_
      conv => whnf
      refine br_f (by decide) ?_
      conv => whnf
      refine br_f (by decide) ?_
      conv => whnf
      refine br_f (by decide) ?_
      conv => whnf
      refine br_f (by decide) ?_
      conv => whnf
      refine br_t (by decide) ?_
      conv => whnf
      refine ⟨hp, ?_⟩
      conv => whnf
      exact hq
    · refine qq_go_ok S (fun _ => false) 60 ?_
      conv => whnf
      refine br_f (by decide) ?_
      conv => whnf
      refine br_f (by decide) ?_
      conv => whnf
      refine br_f (by decide) ?_
      conv => whnf
      refine br_f (by decide) ?_
      conv => whnf
      refine br_f (by decide) ?_
      conv => whnf
      refine br_f (by decide) ?_
      conv => whnf
      refine br_f (by decide) ?_
      conv => whnf
      refine br_t (by decide) ?_
      conv => whnf
      refine ⟨hp, ?_⟩
      conv => whnf
      refine ⟨fun h => ?_, fun h => ?_⟩
      · have h : ¬ w.1 43 (qn a) = 9 := h
        conv => whnf
        have e : mTell w (qn a) 7 = -5 := if_neg h
        rw [e] at hq
        exact hq
      · have h : w.1 43 (qn a) = 9 := h
        conv => whnf
        refine ⟨hp, ?_⟩
        conv => whnf
        have e : mTell w (qn a) 7 = w.1 49 (qn a) := if_pos h
        rw [e] at hq
        exact hq
    · refine qq_go_ok S (fun _ => false) 60 ?_
      conv => whnf
      refine br_f (by decide) ?_
      conv => whnf
      refine br_f (by decide) ?_
      conv => whnf
      refine br_f (by decide) ?_
      conv => whnf
      refine br_f (by decide) ?_
      conv => whnf
      refine br_f (by decide) ?_
      conv => whnf
      refine br_f (by decide) ?_
      conv => whnf
      refine br_f (by decide) ?_
      conv => whnf
      refine br_f (by decide) ?_
      conv => whnf
      refine br_t (by decide) ?_
      conv => whnf
      refine ⟨hp, ?_⟩
      conv => whnf
      exact hq
    · refine qq_go_ok S (fun _ => false) 60 ?_
      conv => whnf
      refine br_f (by decide) ?_
      conv => whnf
      refine br_f (by decide) ?_
      conv => whnf
      refine br_f (by decide) ?_
      conv => whnf
      refine br_f (by decide) ?_
      conv => whnf
      refine br_f (by decide) ?_
      conv => whnf
      refine br_f (by decide) ?_
      conv => whnf
      refine br_f (by decide) ?_
      conv => whnf
      refine br_f (by decide) ?_
      conv => whnf
      refine br_f (by decide) ?_
      conv => whnf
      refine ⟨hp, ?_⟩
      conv => whnf
      refine ⟨fun h => ?_, fun h => ?_⟩
      · have h : ¬ w.1 43 (qn a) = 10 := h
        conv => whnf
        have e : mTell w (qn a) 9 = -5 := if_neg h
        rw [e] at hq
        exact hq
      · have h : w.1 43 (qn a) = 10 := h
        conv => whnf
        refine ⟨hp, ?_⟩
        conv => whnf
        have e : mTell w (qn a) 9 = w.1 49 (qn a) := if_pos h
        rw [e] at hq
        exact hq
  · exact h.elim
theorem ha_X8_tells : ∀ As w P, T_X8_tells As w P → qq_wd As ≤ 3 := by
  intro As w P h
  unfold T_X8_tells at h
  split at h
  · exact Nat.le_of_ble_eq_true rfl
  · exact h.elim
theorem hv_X8_tells : ∀ As w P, T_X8_tells As w P → ∃ (k : Nat) (r : List Value) (fs : List Nat), As = .ref k :: r ∧ ww_sh[k]? = some (.inr (8, fs)) := by
  intro As w P h
  unfold T_X8_tells at h
  split at h
  · exact ⟨_, _, _, rfl, rfl⟩
  · exact h.elim
set_option maxRecDepth 100000 in
theorem M_X8_tells (l : Launch) : qq_M l ww_T ww_N vwCl ww_sh ww_ro ww_zs yX8_tells cX8_tells 3 (some .int) (ww_rm 0) T_X8_tells := by
  refine qq_mk (host := RX7) (is := ki_X8_tells) (cs := cs_X8_tells) (by decide) ww_k1 wl_X8 ww_so ww_so2 kc_X8_tells kv_X8_tells kg_X8_tells ?_ ha_X8_tells bd_X8_tells
  intro k i q hi hq
  simp [cs_X8_tells] at hq
abbrev cs_X8_digest : List (Nat × qq_t) := [(3, T_X8_tells), (1, T_X8_isSolved), (2, T_X8_holdingAt)]
/-- the reference's solving is done; its digest -/
abbrev mDone (w : qq_w) : Prop := ¬ w.1 8 27 = 0 ∧ w.1 8 33 = w.1 8 32
def mDgA (w : qq_w) : Int64 := 31 * dgP (w.1 37) (w.1 38) (w.1 41) (qn (w.1 8 2)) (dgE (w.1 52) (w.1 53) (qn (w.1 8 20)) (dgN (mTell w) (fun n k => w.1 51 (4 * n + k)) (fun n => qn (w.1 50 n)) (qn (w.1 8 8)) 17)) + (w.1 8 23).toInt64
def mDg (w : qq_w) : Int64 := if mDone w then fold31 (fun n => qq_or (w.1 56) (13 * n) 13) (qn (w.1 8 8)) (mDgA w) else mDgA w
def T_X8_digest : qq_t := fun As w P => match As with
  | [.ref 8] => (vp_in (w.1 8 8) 65 ∧ (∀ n, n < qn (w.1 8 8) → mRoom w n) ∧ vp_in (w.1 8 20) 121 ∧ vp_in (w.1 8 2) 9) ∧ P (some (.long (mDg w))) w
  | _ => False
theorem md_200 {P : Option Value → qq_w → Prop} {K : Nat → qq_L → List Value → qq_w → Prop} (S : qq_Sat ww_sh ww_ro cs_X8_digest (qq_at 236 kd_X8_digest) (some .long) P K) {w : qq_w} {N : Nat} {h0 : Int64} (eN : w.1 8 8 = nI N) (hN : N ≤ 64) (hq : P (some (.long (if mDone w then fold31 (fun n => qq_or (w.1 56) (13 * n) 13) N h0 else h0))) w) :
    ∀ m i, i + m = N → ∀ (x1 : Int64) (x3 : Int32), x3 = nI i → (x1 = if mDone w then fold31 (fun n => qq_or (w.1 56) (13 * n) 13) i h0 else h0) → K 200 [(0, .ref 8), (1, .long x1), (3, .int x3)] [] w := by
  intro m
  induction m with
  | zero =>
    intro i hi x1 x3 e3 e1
    have : i = N := by omega
    subst this
    refine qq_go_ok S (fun pc => Nat.beq pc 200) 80 ?_
    conv => whnf
    refine br_t (i_ge' e3 eN (by omega) (by omega)) ?_
    conv => whnf
    rw [e1]
    exact hq
  | succ m ih =>
    intro i hi x1 x3 e3 e1
    have q3 : qn x3 = i := by rw [e3]; exact qn_nI (by omega)
    have no : ¬ mDone w → P (some (.long x1)) w := fun z => by
      rw [if_neg z] at hq e1
      rw [e1]
      exact hq
    refine qq_go_ok S (fun pc => Nat.beq pc 200) 80 ?_
    conv => whnf
    refine br_f (i_lt' e3 eN (by omega) (by omega)) ?_
    conv => whnf
    refine ⟨fun h => ?_, fun h => ?_⟩
    · conv => whnf
      refine br_t rfl ?_
      conv => whnf
      exact no fun z => z.1 h
    conv => whnf
    refine ⟨fun h2 => ?_, fun h2 => ?_⟩
    · conv => whnf
      refine br_t rfl ?_
      conv => whnf
      exact no fun z => h2 z.2
    have hd : mDone w := ⟨h, h2⟩
    conv => whnf
    refine br_f (by decide) ?_
    conv => whnf
    refine ⟨i_in 64 e3 (by omega) (by decide), ?_⟩
    conv => whnf
    refine qq_wk S (ih (i + 1) (by omega) _ _ (i_s e3) ?_) ⟨rfl, rfl, rfl, trivial⟩
    rw [if_pos hd] at e1
    rw [if_pos hd, e1, q3]
    rfl
theorem md_134 {P : Option Value → qq_w → Prop} {K : Nat → qq_L → List Value → qq_w → Prop} (S : qq_Sat ww_sh ww_ro cs_X8_digest (qq_at 236 kd_X8_digest) (some .long) P K) {w : qq_w} {N : Nat} {h0 : Int64} (eN : w.1 8 2 = nI N) (hN : N ≤ 8) (hk : K 200 [(0, .ref 8), (1, .long (31 * dgP (w.1 37) (w.1 38) (w.1 41) N h0 + (w.1 8 23).toInt64)), (3, .int 0)] [] w) :
    ∀ m i, i + m = N → ∀ (x1 : Int64) (x3 : Int32), x3 = nI i → x1 = dgP (w.1 37) (w.1 38) (w.1 41) i h0 → K 134 [(0, .ref 8), (1, .long x1), (3, .int x3)] [] w := by
  intro m
  induction m with
  | zero =>
    intro i hi x1 x3 e3 e1
    have : i = N := by omega
    subst this
    refine qq_go_ok S (fun pc => Nat.beq pc 134 || Nat.beq pc 200) 80 ?_
    conv => whnf
    refine br_t (i_ge' e3 eN (by omega) (by omega)) ?_
    conv => whnf
    rw [← e1] at hk
    exact qq_wk S hk ⟨rfl, rfl, rfl, trivial⟩
  | succ m ih =>
    intro i hi x1 x3 e3 e1
    refine qq_go_ok S (fun pc => Nat.beq pc 134) 80 ?_
    conv => whnf
    refine br_f (i_lt' e3 eN (by omega) (by omega)) ?_
    conv => whnf
    refine ⟨i_in 8 e3 (by omega) (by decide), ?_⟩
    conv => whnf
    refine ⟨i_in 8 e3 (by omega) (by decide), ?_⟩
    conv => whnf
    refine ⟨i_in 8 e3 (by omega) (by decide), ?_⟩
    conv => whnf
    refine qq_wk S (ih (i + 1) (by omega) _ _ (i_s e3) ?_) ⟨rfl, rfl, rfl, trivial⟩
    show 31 * (31 * (31 * x1 + (w.1 37 x3.toNatClampNeg).toInt64) + (w.1 38 x3.toNatClampNeg).toInt64) + (w.1 41 x3.toNatClampNeg).toInt64 = _
    rw [i_c e3 (by omega), e1]
    rfl
theorem md_92 {P : Option Value → qq_w → Prop} {K : Nat → qq_L → List Value → qq_w → Prop} (S : qq_Sat ww_sh ww_ro cs_X8_digest (qq_at 236 kd_X8_digest) (some .long) P K) {w : qq_w} {N : Nat} {h0 : Int64} (eN : w.1 8 20 = nI N) (hN : N ≤ 120) (hk : ∀ x1 : Int64, x1 = dgE (w.1 52) (w.1 53) N h0 → K 134 [(0, .ref 8), (1, .long x1), (3, .int 0)] [] w) :
    ∀ m i, i + m = N → ∀ (x1 : Int64) (x3 : Int32), x3 = nI i → x1 = dgE (w.1 52) (w.1 53) i h0 → K 92 [(0, .ref 8), (1, .long x1), (3, .int x3)] [] w := by
  intro m
  induction m with
  | zero =>
    intro i hi x1 x3 e3 e1
    have : i = N := by omega
    subst this
    refine qq_go_ok S (fun pc => Nat.beq pc 92 || Nat.beq pc 134) 80 ?_
    conv => whnf
    refine br_t (i_ge' e3 eN (by omega) (by omega)) ?_
    conv => whnf
    exact qq_wk S (hk x1 e1) ⟨rfl, rfl, rfl, trivial⟩
  | succ m ih =>
    intro i hi x1 x3 e3 e1
    refine qq_go_ok S (fun pc => Nat.beq pc 92) 80 ?_
    conv => whnf
    refine br_f (i_lt' e3 eN (by omega) (by omega)) ?_
    conv => whnf
    refine ⟨i_in 120 e3 (by omega) (by decide), ?_⟩
    conv => whnf
    refine ⟨i_in 120 e3 (by omega) (by decide), ?_⟩
    conv => whnf
    refine qq_wk S (ih (i + 1) (by omega) _ _ (i_s e3) ?_) ⟨rfl, rfl, rfl, trivial⟩
    show 31 * (31 * x1 + (w.1 52 x3.toNatClampNeg).toInt64) + (w.1 53 x3.toNatClampNeg).toInt64 = _
    rw [i_c e3 (by omega), e1]
    rfl
theorem md_48 {P : Option Value → qq_w → Prop} {K : Nat → qq_L → List Value → qq_w → Prop} (S : qq_Sat ww_sh ww_ro cs_X8_digest (qq_at 236 kd_X8_digest) (some .long) P K) {w : qq_w} {n r : Nat} {h0 : Int64} {x3 : Int32} (e3 : x3 = nI n) (hn : n < 64) (hr : (w.1 50 n = nI r ∧ r < 5) ∨ (w.1 50 n = -5 ∧ r = 0)) (hk : ∀ (x1 : Int64) (y3 : Int32), y3 = nI (n + 1) → x1 = fold31 (fun k => w.1 51 (4 * n + k)) r h0 → K 6 [(0, .ref 8), (1, .long x1), (3, .int y3)] [] w) :
    ∀ m i, i + m = r → ∀ (x1 : Int64) (x4 : Int32), x4 = nI i → x1 = fold31 (fun k => w.1 51 (4 * n + k)) i h0 → K 48 [(0, .ref 8), (1, .long x1), (3, .int x3), (4, .int x4)] [] w := by
  have c50 : w.1 50 x3.toNatClampNeg = w.1 50 n := by rw [i_c e3 (by omega)]
  intro m
  induction m with
  | zero =>
    intro i hi x1 x4 e4 e1
    have : i = r := by omega
    subst this
    have hle : w.1 50 x3.toNatClampNeg ≤ x4 := by
      rw [c50]
      rcases hr with ⟨z1, z2⟩ | ⟨z1, z2⟩
      · exact i_ge' e4 z1 (by omega) (by omega)
      · rw [z1, e4, z2]; decide
    refine qq_go_ok S (fun pc => Nat.beq pc 48 || Nat.beq pc 6) 80 ?_
    conv => whnf
    refine ⟨i_in 64 e3 hn (by decide), ?_⟩
    conv => whnf
    refine br_t hle ?_
    conv => whnf
    exact qq_wk S (hk x1 _ (i_s e3) e1) ⟨rfl, rfl, rfl, trivial⟩
  | succ m ih =>
    intro i hi x1 x4 e4 e1
    obtain ⟨er, hr5⟩ : w.1 50 n = nI r ∧ r < 5 := by
      rcases hr with z | ⟨-, z⟩
      · exact z
      · omega
    refine qq_go_ok S (fun pc => Nat.beq pc 48 || Nat.beq pc 6) 80 ?_
    conv => whnf
    refine ⟨i_in 64 e3 hn (by decide), ?_⟩
    conv => whnf
    refine br_f (i_lt' e4 (c50.trans er) (by omega) (by omega)) ?_
    conv => whnf
    have e := nI_mr e3 e4 (nI_lit 4)
    refine ⟨i_in 256 e (by omega) (by decide), ?_⟩
    conv => whnf
    refine qq_wk S (ih (i + 1) (by omega) _ _ (i_s e4) ?_) ⟨rfl, rfl, rfl, rfl, trivial⟩
    show 31 * x1 + (w.1 51 ((4 : Int32) * x3 + x4).toNatClampNeg).toInt64 = _
    rw [i_c e (by omega), e1]
    rfl
theorem md_17 {P : Option Value → qq_w → Prop} {K : Nat → qq_L → List Value → qq_w → Prop} (S : qq_Sat ww_sh ww_ro cs_X8_digest (qq_at 236 kd_X8_digest) (some .long) P K) {w : qq_w} {n : Nat} {h0 : Int64} {x3 : Int32} (e3 : x3 = nI n) (hn : n < 64) (hk : ∀ x1 : Int64, x1 = fold31 (mTell w n) 10 h0 → K 48 [(0, .ref 8), (1, .long x1), (3, .int x3), (4, .int 0)] [] w) :
    ∀ m i, i + m = 10 → ∀ (x1 : Int64) (x4 : Int32), x4 = nI i → x1 = fold31 (mTell w n) i h0 → K 17 [(0, .ref 8), (1, .long x1), (3, .int x3), (4, .int x4)] [] w := by
  have q3 : qn x3 = n := by rw [e3]; exact qn_nI (by omega)
  intro m
  induction m with
  | zero =>
    intro i hi x1 x4 e4 e1
    have : i = 10 := by omega
    subst this
    refine qq_go_ok S (fun pc => Nat.beq pc 17 || Nat.beq pc 48) 80 ?_
    conv => whnf
    refine br_t (by rw [e4]; decide) ?_
    conv => whnf
    exact qq_wk S (hk x1 e1) ⟨rfl, rfl, rfl, rfl, trivial⟩
  | succ m ih =>
    intro i hi x1 x4 e4 e1
    have q4 : qn x4 = i := by rw [e4]; exact qn_nI (by omega)
    refine qq_go_ok S (fun pc => Nat.beq pc 17 || Nat.beq pc 48) 80 ?_
    conv => whnf
    refine br_f (by rw [e4]; exact nI_nlt (a := 9) (by omega) (by omega)) ?_
    conv => whnf
    refine ⟨⟨i_in 64 e3 hn (by decide), i_in 10 e4 (by omega) (by decide)⟩, ?_⟩
    conv => whnf
    refine qq_wk S (ih (i + 1) (by omega) _ _ (i_s e4) ?_) ⟨rfl, rfl, rfl, rfl, trivial⟩
    rw [q3, q4, e1]
    rfl
theorem md_6 {P : Option Value → qq_w → Prop} {K : Nat → qq_L → List Value → qq_w → Prop} (S : qq_Sat ww_sh ww_ro cs_X8_digest (qq_at 236 kd_X8_digest) (some .long) P K) {w : qq_w} {N : Nat} {h0 : Int64} (eN : w.1 8 8 = nI N) (hN : N ≤ 64) (hro : ∀ n, n < N → mRoom w n) (hk : ∀ x1 : Int64, x1 = dgN (mTell w) (fun n k => w.1 51 (4 * n + k)) (fun n => qn (w.1 50 n)) N h0 → K 92 [(0, .ref 8), (1, .long x1), (3, .int 0)] [] w) :
    ∀ m i, i + m = N → ∀ (x1 : Int64) (x3 : Int32), x3 = nI i → x1 = dgN (mTell w) (fun n k => w.1 51 (4 * n + k)) (fun n => qn (w.1 50 n)) i h0 → K 6 [(0, .ref 8), (1, .long x1), (3, .int x3)] [] w := by
  intro m
  induction m with
  | zero =>
    intro i hi x1 x3 e3 e1
    have : i = N := by omega
    subst this
    refine qq_go_ok S (fun pc => Nat.beq pc 6 || Nat.beq pc 92) 80 ?_
    conv => whnf
    refine br_t (i_ge' e3 eN (by omega) (by omega)) ?_
    conv => whnf
    exact qq_wk S (hk x1 e1) ⟨rfl, rfl, rfl, trivial⟩
  | succ m ih =>
    intro i hi x1 x3 e3 e1
    refine qq_go_ok S (fun pc => Nat.beq pc 17) 80 ?_
    conv => whnf
    refine br_f (i_lt' e3 eN (by omega) (by omega)) ?_
    conv => whnf
    refine qq_wk S (md_17 S (h0 := x1) e3 (by omega) (fun y1 ey1 => ?_) 10 0 rfl x1 0 rfl rfl) ⟨rfl, rfl, rfl, rfl, trivial⟩
    refine md_48 S (h0 := y1) e3 (by omega) (hro i (by omega)) (fun z1 z3 ez3 ez1 => ?_) _ 0 (Nat.zero_add _) y1 0 rfl rfl
    refine ih (i + 1) (by omega) z1 z3 ez3 ?_
    rw [ez1, ey1, e1]
    rfl
set_option maxHeartbeats 4000000 in
set_option maxRecDepth 100000 in
theorem bd_X8_digest : ∀ As w P K, qq_Sat ww_sh ww_ro cs_X8_digest (qq_at 236 kd_X8_digest) (some .long) P K → T_X8_digest As w P → K 0 (lv_args 0 As) [] w := by
  intro As w P K S h
  unfold T_X8_digest at h
  split at h
  · skip
    obtain ⟨⟨hp, hro, hp2, hp3⟩, hq⟩ := h
    obtain ⟨eN, hN⟩ := qn_eq hp (by decide)
    obtain ⟨eE, hE⟩ := qn_eq hp2 (by decide)
    obtain ⟨eP, hP⟩ := qn_eq hp3 (by decide)
    refine qq_go_ok S (fun pc => Nat.beq pc 6) 60 ?_
    conv => whnf
    refine qq_wk S (md_6 S (h0 := 17) eN (by omega) hro (fun x1 e1 => ?_) _ 0 (Nat.zero_add _) 17 0 rfl rfl) ⟨rfl, rfl, rfl, trivial⟩
    refine md_92 S (h0 := x1) eE (by omega) (fun y1 ey => ?_) _ 0 (Nat.zero_add _) x1 0 rfl rfl
    refine md_134 S (h0 := y1) eP (by omega) ?_ _ 0 (Nat.zero_add _) y1 0 rfl rfl
    refine md_200 S (h0 := mDgA w) eN (by omega) hq _ 0 (Nat.zero_add _) _ 0 rfl ?_
    rw [ey, e1]
    unfold mDgA
    split <;> rfl
  · exact h.elim
theorem ha_X8_digest : ∀ As w P, T_X8_digest As w P → qq_wd As ≤ 5 := by
  intro As w P h
  unfold T_X8_digest at h
  split at h
  · exact Nat.le_of_ble_eq_true rfl
  · exact h.elim
theorem hv_X8_digest : ∀ As w P, T_X8_digest As w P → ∃ (k : Nat) (r : List Value) (fs : List Nat), As = .ref k :: r ∧ ww_sh[k]? = some (.inr (8, fs)) := by
  intro As w P h
  unfold T_X8_digest at h
  split at h
  · exact ⟨_, _, _, rfl, rfl⟩
  · exact h.elim
set_option maxRecDepth 100000 in
theorem M_X8_digest (l : Launch) : qq_M l ww_T ww_N vwCl ww_sh ww_ro ww_zs yX8_digest cX8_digest 5 (some .long) (ww_rm 1) T_X8_digest := by
  refine qq_mk (host := RX7) (is := ki_X8_digest) (cs := cs_X8_digest) (by decide) ww_k1 wl_X8 ww_so ww_so2 kc_X8_digest kv_X8_digest kg_X8_digest ?_ ha_X8_digest bd_X8_digest
  intro k i q hi hq
  match k, hi, hq with
  | 0, hi, hq => cases hi; cases hq; exact fun p e s m args below meth c D tys tC ad Q pc X hdg => qq_cV (ci := 8) X ww_gd (M_X8_tells l) kf_X8_tells.1 (Or.inl (ww_a5 (i := 144) (w := Cond.methodLink RX8 153 yX8_tells) rfl rfl)) kf_X8_tells.2.1 kf_X8_tells.2.2.1 kf_X8_tells.2.2.2 ⟨by decide, by decide, by decide +kernel⟩ rfl rfl rfl ⟨by decide, by decide⟩ ⟨Nat.le_refl _, Nat.le_refl _⟩ hv_X8_tells hdg
  | 1, hi, hq => cases hi; cases hq; exact fun p e s m args below meth c D tys tC ad Q pc X hdg => qq_cV (ci := 8) X ww_gd (M_X8_isSolved l) kf_X8_isSolved.1 (Or.inl (ww_a6 (i := 22) (w := Cond.methodLink RX8 243 yX8_isSolved) rfl rfl)) kf_X8_isSolved.2.1 kf_X8_isSolved.2.2.1 kf_X8_isSolved.2.2.2 ⟨by decide, by decide, by decide +kernel⟩ rfl rfl rfl ⟨by decide, by decide⟩ ⟨Nat.le_refl _, Nat.le_refl _⟩ hv_X8_isSolved hdg
  | 2, hi, hq => cases hi; cases hq; exact fun p e s m args below meth c D tys tC ad Q pc X hdg => qq_cV (ci := 8) X ww_gd (M_X8_holdingAt l) kf_X8_holdingAt.1 (Or.inl (ww_a6 (i := 30) (w := Cond.methodLink RX8 246 yX8_holdingAt) rfl rfl)) kf_X8_holdingAt.2.1 kf_X8_holdingAt.2.2.1 kf_X8_holdingAt.2.2.2 ⟨by decide, by decide, by decide +kernel⟩ rfl rfl rfl ⟨by decide, by decide⟩ ⟨Nat.le_refl _, Nat.le_refl _⟩ hv_X8_holdingAt hdg
  | n + 3, hi, hq => simp [cs_X8_digest] at hq
abbrev cs_X1_read : List (Nat × qq_t) := [(2, T_X3_isUnder), (3, T_X3_of)]
/-- the variables that a node reads, by the class -/
def cReadG (w : qq_w) (n : Nat) (k : Int32) (g : Nat) : Prop := ((k = 4 ∨ k = 5) ∧ g = qn (cX w n 3)) ∨ (k = 5 ∧ g = qn (cX w n 4)) ∨ (k = 9 ∧ ∃ i, i < qn (cX w n 8) ∧ ¬ w.1 14 (4 * n + i) = -5 ∧ g = qn (w.1 14 (4 * n + i)))
def T_X1_read : qq_t := fun As w P => match As with
  | [.ref 2, .int a, .int k] => (vp_in a 64 ∧ vp_in k 11 ∧ ((k = 4 ∨ k = 5) → vp_in (cX w (qn a) 3) 13) ∧ (k = 5 → vp_in (cX w (qn a) 4) 13) ∧ (k = 9 → vp_in (cX w (qn a) 8) 5 ∧ ∀ i, i < qn (cX w (qn a) 8) → w.1 14 (4 * qn a + i) = -5 ∨ vp_in (w.1 14 (4 * qn a + i)) 13)) ∧ ∀ x, (∀ g, bt x g = true ↔ cReadG w (qn a) k g) → P (some (.int x)) w
  | _ => False
theorem b_at {v : Int32} (h : vp_in v 13) (g : Nat) : bt ((1 : Int32) <<< (v &&& 31)) g = true ↔ g = qn v := by
  obtain ⟨e, hl⟩ := qn_eq h (by decide)
  rw [e, b_one (by omega), qn_nI (by omega), decide_eq_true_eq]
theorem rl_68 {P : Option Value → qq_w → Prop} {K : Nat → qq_L → List Value → qq_w → Prop} (S : qq_Sat ww_sh ww_ro cs_X1_read (qq_at 117 kd_X1_read) (some .int) P K) {w : qq_w} {a k x4 : Int32} {n r : Nat} {R : Nat → Prop} (ea : a = nI n) (hn : n < 64) (e4 : x4 = nI r) (hr : r < 5) (ha : ∀ i, i < r → w.1 14 (4 * n + i) = -5 ∨ vp_in (w.1 14 (4 * n + i)) 13)
    (hq : ∀ x, (∀ g, bt x g = true ↔ R g ∨ ∃ i, i < r ∧ ¬ w.1 14 (4 * n + i) = -5 ∧ g = qn (w.1 14 (4 * n + i))) → P (some (.int x)) w) :
    ∀ m i, i + m = r → ∀ x3 x5 : Int32, x5 = nI i → (∀ g, bt x3 g = true ↔ R g ∨ ∃ i', i' < i ∧ ¬ w.1 14 (4 * n + i') = -5 ∧ g = qn (w.1 14 (4 * n + i'))) → K 68 [(0, .ref 2), (1, .int a), (2, .int k), (3, .int x3), (4, .int x4), (5, .int x5)] [] w := by
  intro m
  induction m with
  | zero =>
    intro i hi x3 x5 e5 h3
    have : i = r := by omega
    subst this
    refine qq_go_ok S (fun pc => Nat.beq pc 68) 60 ?_
    conv => whnf
    refine br_t (i_ge' e5 e4 (by omega) (by omega)) ?_
    conv => whnf
    exact hq x3 h3
  | succ m ih =>
    intro i hi x3 x5 e5 h3
    refine qq_go_ok S (fun pc => Nat.beq pc 68) 60 ?_
    conv => whnf
    refine br_f (i_lt' e5 e4 (by omega) (by omega)) ?_
    conv => whnf
    have e := nI_ml ea e5 (nI_lit 4)
    refine ⟨i_in 256 e (by omega) (by decide), ?_⟩
    conv => whnf
    have ce : w.1 14 (a * 4 + x5).toNatClampNeg = w.1 14 (4 * n + i) := by rw [i_c e (by omega)]
    refine ⟨fun h => ?_, fun h => ?_⟩
    · have h : ¬ w.1 14 (a * 4 + x5).toNatClampNeg = -5 := h
      rw [ce] at h
      have hv : vp_in (w.1 14 (4 * n + i)) 13 := (ha i (by omega)).elim (fun z => absurd z h) id
      conv => whnf
      refine qq_wk S (ih (i + 1) (by omega) (x3 ||| (1 <<< (w.1 14 (4 * n + i) &&& 31))) _ (i_s e5) (fun g => ?_)) ⟨rfl, rfl, rfl, ?_, rfl, rfl, trivial⟩
      · rw [b_or, Bool.or_eq_true, h3 g, b_at hv]
        constructor
        · rintro ((z | ⟨i', z1, z2⟩) | z)
          · exact Or.inl z
          · exact Or.inr ⟨i', by omega, z2⟩
          · exact Or.inr ⟨i, by omega, h, z⟩
        · rintro (z | ⟨i', z1, z2, z3⟩)
          · exact Or.inl (Or.inl z)
          · by_cases q : i' = i
            · subst q; exact Or.inr z3
            · exact Or.inl (Or.inr ⟨i', by omega, z2, z3⟩)
      · show some (Value.int (x3 ||| (1 <<< (w.1 14 (a * 4 + x5).toNatClampNeg &&& 31)))) = _
        rw [ce]
    · have h : w.1 14 (a * 4 + x5).toNatClampNeg = -5 := h
      rw [ce] at h
      conv => whnf
      refine qq_wk S (ih (i + 1) (by omega) (x3 ||| 0) _ (i_s e5) (fun g => ?_)) ⟨rfl, rfl, rfl, rfl, rfl, rfl, trivial⟩
      rw [or0, h3 g]
      constructor
      · rintro (z | ⟨i', z1, z2⟩)
        · exact Or.inl z
        · exact Or.inr ⟨i', by omega, z2⟩
      · rintro (z | ⟨i', z1, z2, z3⟩)
        · exact Or.inl z
        · by_cases q : i' = i
          · subst q; exact absurd h z2
          · exact Or.inr ⟨i', by omega, z2, z3⟩
theorem rl_43 {P : Option Value → qq_w → Prop} {K : Nat → qq_L → List Value → qq_w → Prop} (S : qq_Sat ww_sh ww_ro cs_X1_read (qq_at 117 kd_X1_read) (some .int) P K) {w : qq_w} {a k x3 : Int32} {n : Nat} {R : Nat → Prop} (ea : a = nI n) (hn : n < 64) (h9 : k = 9 → vp_in (cX w n 8) 5 ∧ ∀ i, i < qn (cX w n 8) → w.1 14 (4 * n + i) = -5 ∨ vp_in (w.1 14 (4 * n + i)) 13) (h3 : ∀ g, bt x3 g = true ↔ R g)
    (hq : ∀ x, (∀ g, bt x g = true ↔ R g ∨ (k = 9 ∧ ∃ i, i < qn (cX w n 8) ∧ ¬ w.1 14 (4 * n + i) = -5 ∧ g = qn (w.1 14 (4 * n + i)))) → P (some (.int x)) w) : K 43 [(0, .ref 2), (1, .int a), (2, .int k), (3, .int x3)] [] w := by
  refine qq_go_ok S (fun pc => Nat.beq pc 68) 60 ?_
  conv => whnf
  refine ⟨fun h => ?_, fun h => ?_⟩
  · conv => whnf
    refine qq_wk S (rl_68 S (R := R) (x4 := 0) (r := 0) ea hn rfl (by omega) (fun i hi => absurd hi (by omega)) (fun x hx => hq x fun g => ?_) 0 0 rfl x3 _ rfl (fun g => ?_)) ⟨rfl, rfl, rfl, rfl, rfl, rfl, trivial⟩
    · rw [hx g]
      constructor
      · rintro (z | ⟨i, z, -⟩)
        · exact Or.inl z
        · omega
      · rintro (z | ⟨z, -⟩)
        · exact Or.inl z
        · exact absurd z h
    · rw [h3 g]
      constructor
      · exact Or.inl
      · rintro (z | ⟨i, z, -⟩)
        · exact z
        · omega
  · conv => whnf
    have i8 := nI_ml ea (x := 8) (i := 8) rfl (nI_lit 10)
    have c8 : w.1 13 (a * 10 + 8).toNatClampNeg = cX w n 8 := by rw [i_c i8 (by omega)]
    refine ⟨i_in 640 i8 (by omega) (by decide), ?_⟩
    conv => whnf
    obtain ⟨v8, hv⟩ := h9 h
    obtain ⟨e8, l8⟩ := qn_eq v8 (by decide)
    refine qq_wk S (rl_68 S (R := R) (x4 := cX w n 8) (r := qn (cX w n 8)) ea hn e8 l8 hv (fun x hx => hq x fun g => ?_) _ 0 (Nat.zero_add _) x3 _ rfl (fun g => ?_)) ⟨rfl, rfl, rfl, rfl, ?_, rfl, trivial⟩
    · rw [hx g]
      refine or_congr Iff.rfl ⟨fun z => ⟨h, z⟩, fun z => z.2⟩
    · rw [h3 g]
      constructor
      · exact Or.inl
      · rintro (z | ⟨i, z, -⟩)
        · exact z
        · omega
    · show some (Value.int (w.1 13 (a * 10 + 8).toNatClampNeg)) = _
      rw [c8]
theorem rl_24 {P : Option Value → qq_w → Prop} {K : Nat → qq_L → List Value → qq_w → Prop} (S : qq_Sat ww_sh ww_ro cs_X1_read (qq_at 117 kd_X1_read) (some .int) P K) {w : qq_w} {a k x3 : Int32} {n : Nat} {R : Nat → Prop} (ea : a = nI n) (hn : n < 64) (h5 : k = 5 → vp_in (cX w n 4) 13) (h9 : k = 9 → vp_in (cX w n 8) 5 ∧ ∀ i, i < qn (cX w n 8) → w.1 14 (4 * n + i) = -5 ∨ vp_in (w.1 14 (4 * n + i)) 13) (h3 : ∀ g, bt x3 g = true ↔ R g)
    (hq : ∀ x, (∀ g, bt x g = true ↔ R g ∨ (k = 5 ∧ g = qn (cX w n 4)) ∨ (k = 9 ∧ ∃ i, i < qn (cX w n 8) ∧ ¬ w.1 14 (4 * n + i) = -5 ∧ g = qn (w.1 14 (4 * n + i)))) → P (some (.int x)) w) : K 24 [(0, .ref 2), (1, .int a), (2, .int k), (3, .int x3)] [] w := by
  refine qq_go_ok S (fun pc => Nat.beq pc 43) 60 ?_
  conv => whnf
  refine ⟨fun h => ?_, fun h => ?_⟩
  · conv => whnf
    refine qq_wk S (rl_43 S (R := R) ea hn h9 h3 (fun x hx => hq x fun g => ?_)) ⟨rfl, rfl, rfl, rfl, trivial⟩
    rw [hx g]
    constructor
    · rintro (z | z)
      · exact Or.inl z
      · exact Or.inr (Or.inr z)
    · rintro (z | ⟨z, -⟩ | z)
      · exact Or.inl z
      · exact absurd z h
      · exact Or.inr z
  · conv => whnf
    have i4 := nI_ml ea (x := 4) (i := 4) rfl (nI_lit 10)
    have c4 : w.1 13 (a * 10 + 4).toNatClampNeg = cX w n 4 := by rw [i_c i4 (by omega)]
    refine ⟨i_in 640 i4 (by omega) (by decide), ?_⟩
    conv => whnf
    refine qq_wk S (rl_43 S (x3 := x3 ||| (1 <<< (cX w n 4 &&& 31))) (R := fun g => R g ∨ g = qn (cX w n 4)) ea hn h9 (fun g => ?_) (fun x hx => hq x fun g => ?_)) ⟨rfl, rfl, rfl, ?_, trivial⟩
    · rw [b_or, Bool.or_eq_true, h3 g, b_at (h5 h)]
    · rw [hx g]
      constructor
      · rintro ((z | z) | z)
        · exact Or.inl z
        · exact Or.inr (Or.inl ⟨h, z⟩)
        · exact Or.inr (Or.inr z)
      · rintro (z | ⟨-, z⟩ | z)
        · exact Or.inl (Or.inl z)
        · exact Or.inl (Or.inr z)
        · exact Or.inr z
    · show some (Value.int (x3 ||| (1 <<< (w.1 13 (a * 10 + 4).toNatClampNeg &&& 31)))) = _
      rw [c4]
set_option maxHeartbeats 4000000 in
set_option maxRecDepth 100000 in
theorem bd_X1_read : ∀ As w P K, qq_Sat ww_sh ww_ro cs_X1_read (qq_at 117 kd_X1_read) (some .int) P K → T_X1_read As w P → K 0 (lv_args 0 As) [] w := by
  intro As w P K S h
  unfold T_X1_read at h
  split at h
  · rename_i a k
    obtain ⟨⟨hp, hp2, h3, h5, h9⟩, hq⟩ := h
    obtain ⟨ea, ha⟩ := qn_eq hp (by decide)
    obtain ⟨ek, hk⟩ := qn_eq hp2 (by decide)
    have e4 : k = 4 ↔ qn k = 4 := by
      have : k = nI 4 ↔ qn k = 4 := by rw [ek, qn_nI (by omega)]; exact nI_eq (by omega) (by omega)
      exact this
    have e5 : k = 5 ↔ qn k = 5 := by
      have : k = nI 5 ↔ qn k = 5 := by rw [ek, qn_nI (by omega)]; exact nI_eq (by omega) (by omega)
      exact this
    have hu : qq_under (qn k) 4 ↔ k = 4 ∨ k = 5 := by
      unfold qq_under
      rw [← ek, e5]
      constructor
      · rintro (z | ⟨z, -⟩ | ⟨-, z⟩)
        · exact Or.inl z.symm
        · exact absurd z (by decide)
        · exact Or.inr z
      · rintro (z | z)
        · exact Or.inl z.symm
        · exact Or.inr (Or.inr ⟨rfl, z⟩)
    refine qq_go_ok S (fun pc => Nat.beq pc 24) 60 ?_
    conv => whnf
    refine ⟨hp2, fun h => ?_, fun h => ?_⟩
    · rw [hu] at h
      conv => whnf
      refine br_f (by decide) ?_
      conv => whnf
      have i3 := nI_ml ea (x := 3) (i := 3) rfl (nI_lit 10)
      have c3 : w.1 13 (a * 10 + 3).toNatClampNeg = cX w (qn a) 3 := by rw [i_c i3 (by omega)]
      refine ⟨i_in 640 i3 (by omega) (by decide), ?_⟩
      conv => whnf
      refine qq_wk S (rl_24 S (x3 := (0 : Int32) ||| ((1 : Int32) <<< (cX w (qn a) 3 &&& 31))) (R := fun g => g = qn (cX w (qn a) 3)) ea ha h5 h9 (fun g => ?_) (fun x hx => hq x fun g => ?_)) ⟨rfl, rfl, rfl, ?_, trivial⟩
      · rw [zor, b_at (h3 h)]
      · rw [hx g]
        unfold cReadG
        refine or_congr ⟨fun z => ⟨h, z⟩, fun z => z.2⟩ Iff.rfl
      · show some (Value.int ((0 : Int32) ||| ((1 : Int32) <<< (w.1 13 (a * 10 + 3).toNatClampNeg &&& 31)))) = _
        rw [c3]
    · rw [hu] at h
      conv => whnf
      refine br_t rfl ?_
      conv => whnf
      refine qq_wk S (rl_24 S (x3 := 0) (R := fun g => False) ea ha h5 h9 (fun g => ?_) (fun x hx => hq x fun g => ?_)) ⟨rfl, rfl, rfl, rfl, trivial⟩
      · rw [b_0]; simp
      · rw [hx g]
        unfold cReadG
        exact or_congr ⟨False.elim, fun z => absurd z.1 h⟩ Iff.rfl
  · exact h.elim
theorem ha_X1_read : ∀ As w P, T_X1_read As w P → qq_wd As ≤ 7 := by
  intro As w P h
  unfold T_X1_read at h
  split at h
  · exact Nat.le_of_ble_eq_true rfl
  · exact h.elim
theorem hv_X1_read : ∀ As w P, T_X1_read As w P → ∃ (k : Nat) (r : List Value) (fs : List Nat), As = .ref k :: r ∧ ww_sh[k]? = some (.inr (1, fs)) := by
  intro As w P h
  unfold T_X1_read at h
  split at h
  · exact ⟨_, _, _, rfl, rfl⟩
  · exact h.elim
set_option maxRecDepth 100000 in
theorem M_X1_read (l : Launch) : qq_M l ww_T ww_N vwCl ww_sh ww_ro ww_zs yX1_read cX1_read 7 (some .int) (ww_rm 2) T_X1_read := by
  refine qq_mk (host := RX7) (is := ki_X1_read) (cs := cs_X1_read) (by decide) ww_k1 wl_X1 ww_so ww_so2 kc_X1_read kv_X1_read kg_X1_read ?_ ha_X1_read bd_X1_read
  intro k i q hi hq
  match k, hi, hq with
  | 0, hi, hq => cases hi; cases hq; exact fun p e s m args below meth c D tys tC ad Q pc X hdg => qq_cS X ww_gd (M_X3_isUnder l) kf_X3_isUnder.1 (Or.inl (ww_a3 (i := 12) (w := Cond.methodLink RX1 63 yX3_isUnder) rfl rfl)) kf_X3_isUnder.2.1 kf_X3_isUnder.2.2 ⟨by decide, by decide, by decide +kernel⟩ rfl rfl ⟨by decide, by decide⟩ ⟨Nat.le_refl _, Nat.le_refl _⟩ hdg
  | 1, hi, hq => cases hi; cases hq; exact fun p e s m args below meth c D tys tC ad Q pc X hdg => qq_cV (ci := 3) X ww_gd (M_X3_of l) kf_X3_of.1 (Or.inl (ww_a3 (i := 11) (w := Cond.methodLink RX1 60 yX3_of) rfl rfl)) kf_X3_of.2.1 kf_X3_of.2.2.1 kf_X3_of.2.2.2 ⟨by decide, by decide, by decide +kernel⟩ rfl rfl rfl ⟨by decide, by decide⟩ ⟨Nat.le_refl _, Nat.le_refl _⟩ hv_X3_of hdg
  | n + 2, hi, hq => simp [cs_X1_read] at hq
abbrev cs_X5_summed : List (Nat × qq_t) := [(2, T_X5_holding), (2, T_X7_has), (3, T_X5_through)]
/-- a fact holds at a node, by the class's rows -/
def cHolds (w : qq_w) (n f : Nat) : Prop := ∃ d, d < 13 ∧ bt (w.1 20 (13 * n + d)) f = true
theorem cHolds_or {w : qq_w} {n f : Nat} : bt (qq_or (w.1 20) (13 * n) 13) f = true ↔ cHolds w n f := qq_or_bt (w.1 20) (13 * n) f 13
def T_X5_summed : qq_t := fun As w P => match As with
  | [.ref 3, .int a, .int b] => (vp_in a 64 ∧ vp_in b 13 ∧ vp_in (cX w (qn a) 5) 8 ∧ vp_in (w.1 12 (qn (cX w (qn a) 5))) 63) ∧ ∀ x, (∀ g, bt x g = true ↔ cHolds w (qn a) (qn b) ∧ cThr w (qn a) (qn b) g) → P (some (.int x)) w
  | _ => False
set_option maxHeartbeats 4000000 in
set_option maxRecDepth 100000 in
theorem bd_X5_summed : ∀ As w P K, qq_Sat ww_sh ww_ro cs_X5_summed (qq_at 23 kd_X5_summed) (some .int) P K → T_X5_summed As w P → K 0 (lv_args 0 As) [] w := by
  intro As w P K S h
  unfold T_X5_summed at h
  split at h
  · rename_i a b
    obtain ⟨⟨hp, hp2, hp3, hp4⟩, hq⟩ := h
    obtain ⟨eb, hb⟩ := qn_eq hp2 (by decide)
    have hb' : (qq_or (w.1 20) (13 * qn a) 13 >>> (b &&& 31)) &&& 1 = 0 ↔ bt (qq_or (w.1 20) (13 * qn a) 13) (qn b) = false := by
      have := b_has (n := qn b) (by omega) (qq_or (w.1 20) (13 * qn a) 13)
      rw [← eb] at this
      exact this
    refine qq_go_ok S (fun _ => false) 60 ?_
    conv => whnf
    refine ⟨hp, ?_⟩
    conv => whnf
    refine ⟨fun h => ?_, fun h => ?_⟩
    · conv => whnf
      refine br_t rfl ?_
      conv => whnf
      refine hq 0 fun g => ?_
      rw [b_0]
      constructor
      · intro z; cases z
      · rintro ⟨z, -⟩
        rw [← cHolds_or, hb'.mp h] at z
        cases z
    · have hh : cHolds w (qn a) (qn b) := cHolds_or.mp (bt_not fun z => h (hb'.mpr z))
      conv => whnf
      refine br_f (by decide) ?_
      conv => whnf
      refine ⟨⟨hp, hp2, hp3, hp4⟩, fun x hx => ?_⟩
      conv => whnf
      exact hq x fun g => by rw [hx g]; exact ⟨fun z => ⟨hh, z⟩, fun z => z.2⟩
  · exact h.elim
theorem ha_X5_summed : ∀ As w P, T_X5_summed As w P → qq_wd As ≤ 3 := by
  intro As w P h
  unfold T_X5_summed at h
  split at h
  · exact Nat.le_of_ble_eq_true rfl
  · exact h.elim
theorem hv_X5_summed : ∀ As w P, T_X5_summed As w P → ∃ (k : Nat) (r : List Value) (fs : List Nat), As = .ref k :: r ∧ ww_sh[k]? = some (.inr (5, fs)) := by
  intro As w P h
  unfold T_X5_summed at h
  split at h
  · exact ⟨_, _, _, rfl, rfl⟩
  · exact h.elim
set_option maxRecDepth 100000 in
theorem M_X5_summed (l : Launch) : qq_M l ww_T ww_N vwCl ww_sh ww_ro ww_zs yX5_summed cX5_summed 3 (some .int) (ww_rm 2) T_X5_summed := by
  refine qq_mk (host := RX7) (is := ki_X5_summed) (cs := cs_X5_summed) (by decide) ww_k1 wl_X5 ww_so ww_so2 kc_X5_summed kv_X5_summed kg_X5_summed ?_ ha_X5_summed bd_X5_summed
  intro k i q hi hq
  match k, hi, hq with
  | 0, hi, hq => cases hi; cases hq; exact fun p e s m args below meth c D tys tC ad Q pc X hdg => qq_cV (ci := 5) X ww_gd (M_X5_holding l) kf_X5_holding.1 (Or.inl (ww_a3 (i := 144) (w := Cond.methodLink RX5 131 yX5_holding) rfl rfl)) kf_X5_holding.2.1 kf_X5_holding.2.2.1 kf_X5_holding.2.2.2 ⟨by decide, by decide, by decide +kernel⟩ rfl rfl rfl ⟨by decide, by decide⟩ ⟨Nat.le_refl _, Nat.le_refl _⟩ hv_X5_holding hdg
  | 1, hi, hq => cases hi; cases hq; exact fun p e s m args below meth c D tys tC ad Q pc X hdg => qq_cS X ww_gd (M_X7_has l) kf_X7_has.1 (Or.inr ⟨RX7, ww_n3 (i := 61) (w := Cond.methodLinkNest RX5 82 yX7_has RX7) rfl rfl⟩) kf_X7_has.2.1 kf_X7_has.2.2 ⟨by decide, by decide, by decide +kernel⟩ rfl rfl ⟨by decide, by decide⟩ ⟨Nat.le_refl _, Nat.le_refl _⟩ hdg
  | 2, hi, hq => cases hi; cases hq; exact fun p e s m args below meth c D tys tC ad Q pc X hdg => qq_cV (ci := 5) X ww_gd (M_X5_through l) kf_X5_through.1 (Or.inl (ww_a3 (i := 86) (w := Cond.methodLink RX5 115 yX5_through) rfl rfl)) kf_X5_through.2.1 kf_X5_through.2.2.1 kf_X5_through.2.2.2 ⟨by decide, by decide, by decide +kernel⟩ rfl rfl rfl ⟨by decide, by decide⟩ ⟨Nat.le_refl _, Nat.le_refl _⟩ hv_X5_through hdg
  | n + 3, hi, hq => simp [cs_X5_summed] at hq
abbrev cs_X5_countSummaries : List (Nat × qq_t) := [(2, T_X3_isCall), (3, T_X5_summed), (1, T_J6_bitCount_0f7a4)]
def T_X5_countSummaries : qq_t := fun As w P => match As with
  | [.ref 3] => ((vp_in (w.1 1 10) 65 ∧ (∀ j, fs (w.1 19 j)) ∧ ∀ c, c < qn (w.1 1 10) → cX w c 1 = 9 → vp_in (cX w c 5) 8 ∧ vp_in (w.1 12 (qn (cX w c 5))) 63)) ∧ ∃ B : Nat → Int32, (∀ c d g, c < qn (w.1 1 10) → d < 13 → (bt (B (13 * c + d)) g = true ↔ cX w c 1 = 9 ∧ cHolds w c d ∧ cThr w c d g)) ∧ P (some (.int (nI (cCount B (13 * qn (w.1 1 10)))))) w
  | _ => False
theorem cs_17 {P : Option Value → qq_w → Prop} {K : Nat → qq_L → List Value → qq_w → Prop} (S : qq_Sat ww_sh ww_ro cs_X5_countSummaries (qq_at 60 kd_X5_countSummaries) (some .int) P K) {w : qq_w} {B : Nat → Int32} {x2 : Int32} {n : Nat} (e2 : x2 = nI n) (hn : n < 64) (hfs : ∀ j, fs (w.1 19 j)) (hc : cX w n 1 = 9 → vp_in (cX w n 5) 8 ∧ vp_in (w.1 12 (qn (cX w n 5))) 63) (hB : ∀ d g, d < 13 → (bt (B (13 * n + d)) g = true ↔ cX w n 1 = 9 ∧ cHolds w n d ∧ cThr w n d g))
    (hk : ∀ x1 : Int32, x1 = nI (cCount B (13 * (n + 1))) → K 4 [(0, .ref 3), (1, .int x1), (2, .int (x2 + 1))] [] w) :
    ∀ m i, i + m = 13 → ∀ x1 x3 : Int32, x3 = nI i → x1 = nI (cCount B (13 * n + i)) → K 17 [(0, .ref 3), (1, .int x1), (2, .int x2), (3, .int x3)] [] w := by
  have q2 : qn x2 = n := by rw [e2]; exact qn_nI (by omega)
  have i1 := nI_ml e2 (x := 1) (i := 1) rfl (nI_lit 10)
  have c1 : w.1 13 (x2 * 10 + 1).toNatClampNeg = cX w n 1 := by rw [i_c i1 (by omega)]
  intro m
  induction m with
  | zero =>
    intro i hi x1 x3 e3 e1
    have : i = 13 := by omega
    subst this
    refine qq_go_ok S (fun pc => Nat.beq pc 17 || Nat.beq pc 4) 60 ?_
    conv => whnf
    refine br_t (i_ge 13 e3 (by omega) (by omega)) ?_
    conv => whnf
    exact qq_wk S (hk x1 e1) ⟨rfl, rfl, rfl, trivial⟩
  | succ m ih =>
    intro i hi x1 x3 e3 e1
    have q3 : qn x3 = i := by rw [e3]; exact qn_nI (by omega)
    refine qq_go_ok S (fun pc => Nat.beq pc 17 || Nat.beq pc 4) 60 ?_
    conv => whnf
    refine br_f (i_nge 13 e3 (by omega) (by omega)) ?_
    conv => whnf
    refine ⟨i_in 640 i1 (by omega) (by decide), ?_⟩
    conv => whnf
    refine ⟨fun h => ?_, fun h => ?_⟩
    · have h : ¬ w.1 13 (x2 * 10 + 1).toNatClampNeg = 9 := h
      rw [c1] at h
      conv => whnf
      refine br_t rfl ?_
      conv => whnf
      refine qq_wk S (hk x1 ?_) ⟨rfl, rfl, rfl, trivial⟩
      rw [e1]
      congr 1
      -- rows of a node that is no CALL are empty
      have : ∀ q, i + q ≤ 13 → cCount B (13 * n + (i + q)) = cCount B (13 * n + i) := by
        intro q
        induction q with
        | zero => intro _; rfl
        | succ q ihq =>
          intro hq
          have e0 : B (13 * n + (i + q)) = 0 := b_zero fun g _ => by
            cases z : bt (B (13 * n + (i + q))) g with
            | false => rfl
            | true => exact absurd ((hB (i + q) g (by omega)).mp z).1 h
          show cCount B (13 * n + (i + q)) + pcb (B (13 * n + (i + q))) 13 = _
          rw [ihq (by omega), e0]
          rfl
      have := this (13 - i) (by omega)
      rw [show 13 * (n + 1) = 13 * n + (i + (13 - i)) by omega, this]
    · have h : w.1 13 (x2 * 10 + 1).toNatClampNeg = 9 := h
      rw [c1] at h
      conv => whnf
      refine br_f (by decide) ?_
      conv => whnf
      obtain ⟨v5, v12⟩ := hc h
      refine ⟨⟨i_in 64 e2 hn (by decide), i_in 13 e3 (by omega) (by decide), by rw [q2]; exact v5, by rw [q2]; exact v12⟩, fun x hx => ?_⟩
      conv => whnf
      rw [q2, q3] at hx
      have ex : x = B (13 * n + i) := b_ext fun g _ => by
        have z1 := hx g
        have z2 := hB i g (by omega)
        rw [Bool.eq_iff_iff, z1, z2]
        exact ⟨fun z => ⟨h, z⟩, fun z => z.2⟩
      have hfx : fs x := by
        intro g hg
        cases z : bt x g with
        | false => rfl
        | true =>
          obtain ⟨-, d, e, -, -, -, -, z⟩ := (hx g).mp z
          rw [hfs _ g hg] at z
          cases z
      refine ⟨hfx, ?_⟩
      conv => whnf
      refine qq_wk S (ih (i + 1) (by omega) _ _ (i_s e3) ?_) ⟨rfl, rfl, rfl, rfl, trivial⟩
      rw [e1, nI_add, ex]
      rfl
theorem cs_4 {P : Option Value → qq_w → Prop} {K : Nat → qq_L → List Value → qq_w → Prop} (S : qq_Sat ww_sh ww_ro cs_X5_countSummaries (qq_at 60 kd_X5_countSummaries) (some .int) P K) {w : qq_w} {B : Nat → Int32} {N : Nat} (eN : w.1 1 10 = nI N) (hN : N ≤ 64) (hfs : ∀ j, fs (w.1 19 j)) (hc : ∀ c, c < N → cX w c 1 = 9 → vp_in (cX w c 5) 8 ∧ vp_in (w.1 12 (qn (cX w c 5))) 63) (hB : ∀ c d g, c < N → d < 13 → (bt (B (13 * c + d)) g = true ↔ cX w c 1 = 9 ∧ cHolds w c d ∧ cThr w c d g)) (hq : P (some (.int (nI (cCount B (13 * N))))) w) :
    ∀ m i, i + m = N → ∀ x1 x2 : Int32, x2 = nI i → x1 = nI (cCount B (13 * i)) → K 4 [(0, .ref 3), (1, .int x1), (2, .int x2)] [] w := by
  intro m
  induction m with
  | zero =>
    intro i hi x1 x2 e2 e1
    have : i = N := by omega
    subst this
    refine qq_go_ok S (fun pc => Nat.beq pc 4) 60 ?_
    conv => whnf
    refine br_t (i_ge' e2 eN (by omega) (by omega)) ?_
    conv => whnf
    rw [e1]
    exact hq
  | succ m ih =>
    intro i hi x1 x2 e2 e1
    refine qq_go_ok S (fun pc => Nat.beq pc 17) 60 ?_
    conv => whnf
    refine br_f (i_lt' e2 eN (by omega) (by omega)) ?_
    conv => whnf
    exact qq_wk S (cs_17 S e2 (by omega) hfs (hc i (by omega)) (fun d g hd => hB i d g (by omega) hd) (fun y1 ey => ih (i + 1) (by omega) y1 _ (i_s e2) ey) 13 0 rfl x1 _ rfl e1) ⟨rfl, rfl, rfl, rfl, trivial⟩
set_option maxHeartbeats 4000000 in
set_option maxRecDepth 100000 in
theorem bd_X5_countSummaries : ∀ As w P K, qq_Sat ww_sh ww_ro cs_X5_countSummaries (qq_at 60 kd_X5_countSummaries) (some .int) P K → T_X5_countSummaries As w P → K 0 (lv_args 0 As) [] w := by
  intro As w P K S h
  unfold T_X5_countSummaries at h
  split at h
  · skip
    obtain ⟨⟨hp, hfs, hc⟩, B, hB, hq⟩ := h
    obtain ⟨eN, hN⟩ := qn_eq hp (by decide)
    refine qq_go_ok S (fun pc => Nat.beq pc 4) 60 ?_
    conv => whnf
    exact qq_wk S (cs_4 S eN (by omega) hfs hc hB hq _ 0 (Nat.zero_add _) _ _ rfl rfl) ⟨rfl, rfl, rfl, trivial⟩
  · exact h.elim
theorem ha_X5_countSummaries : ∀ As w P, T_X5_countSummaries As w P → qq_wd As ≤ 4 := by
  intro As w P h
  unfold T_X5_countSummaries at h
  split at h
  · exact Nat.le_of_ble_eq_true rfl
  · exact h.elim
theorem hv_X5_countSummaries : ∀ As w P, T_X5_countSummaries As w P → ∃ (k : Nat) (r : List Value) (fs : List Nat), As = .ref k :: r ∧ ww_sh[k]? = some (.inr (5, fs)) := by
  intro As w P h
  unfold T_X5_countSummaries at h
  split at h
  · exact ⟨_, _, _, rfl, rfl⟩
  · exact h.elim
set_option maxRecDepth 100000 in
theorem M_X5_countSummaries (l : Launch) : qq_M l ww_T ww_N vwCl ww_sh ww_ro ww_zs yX5_countSummaries cX5_countSummaries 4 (some .int) (ww_rm 3) T_X5_countSummaries := by
  refine qq_mk (host := RX7) (is := ki_X5_countSummaries) (cs := cs_X5_countSummaries) (by decide) ww_k1 wl_X5 ww_so ww_so2 kc_X5_countSummaries kv_X5_countSummaries kg_X5_countSummaries ?_ ha_X5_countSummaries bd_X5_countSummaries
  intro k i q hi hq
  match k, hi, hq with
  | 0, hi, hq => cases hi; cases hq; exact fun p e s m args below meth c D tys tC ad Q pc X hdg => qq_cV (ci := 3) X ww_gd (M_X3_isCall l) kf_X3_isCall.1 (Or.inl (ww_a3 (i := 51) (w := Cond.methodLink RX5 64 yX3_isCall) rfl rfl)) kf_X3_isCall.2.1 kf_X3_isCall.2.2.1 kf_X3_isCall.2.2.2 ⟨by decide, by decide, by decide +kernel⟩ rfl rfl rfl ⟨by decide, by decide⟩ ⟨Nat.le_refl _, Nat.le_refl _⟩ hv_X3_isCall hdg
  | 1, hi, hq => cases hi; cases hq; exact fun p e s m args below meth c D tys tC ad Q pc X hdg => qq_cV (ci := 5) X ww_gd (M_X5_summed l) kf_X5_summed.1 (Or.inl (ww_a3 (i := 140) (w := Cond.methodLink RX5 134 yX5_summed) rfl rfl)) kf_X5_summed.2.1 kf_X5_summed.2.2.1 kf_X5_summed.2.2.2 ⟨by decide, by decide, by decide +kernel⟩ rfl rfl rfl ⟨by decide, by decide⟩ ⟨Nat.le_refl _, Nat.le_refl _⟩ hv_X5_summed hdg
  | 2, hi, hq => cases hi; cases hq; exact fun p e s m args below meth c D tys tC ad Q pc X hdg => qq_cS X ww_gd (M_J6_bitCount_0f7a4 l) kf_J6_bitCount_0f7a4.1 (Or.inl (ww_a3 (i := 145) (w := Cond.methodLink RX5 137 yJ6_bitCount_0f7a4) rfl rfl)) kf_J6_bitCount_0f7a4.2.1 kf_J6_bitCount_0f7a4.2.2 ⟨by decide, by decide, by decide +kernel⟩ rfl rfl ⟨by decide, by decide⟩ ⟨Nat.le_refl _, Nat.le_refl _⟩ hdg
  | n + 3, hi, hq => simp [cs_X5_countSummaries] at hq
abbrev cs_X5_isBeginning : List (Nat × qq_t) := [(1, T_X1_beginning), (2, T_X7_has)]
def T_X5_isBeginning : qq_t := fun As w P => match As with
  | [.ref 3, .int p, .int f] => vp_in f 13 ∧ (p = 0 ∧ bt (cBegin w) (qn f) = true → P (some (.int 1)) w) ∧ (¬ (p = 0 ∧ bt (cBegin w) (qn f) = true) → P (some (.int 0)) w)
  | _ => False
theorem ib_11 {P : Option Value → qq_w → Prop} {K : Nat → qq_L → List Value → qq_w → Prop} (S : qq_Sat ww_sh ww_ro cs_X5_isBeginning (qq_at 24 kd_X5_isBeginning) (some .boolean) P K) {w : qq_w} {p f b : Int32} (hf : vp_in f 13) (h1 : bt b (qn f) = true → P (some (.int 1)) w) (h0 : ¬ bt b (qn f) = true → P (some (.int 0)) w) : K 11 [(0, .ref 3), (1, .int p), (2, .int f)] [.int b] w := by
  obtain ⟨ef, hfn⟩ := qn_eq hf (by decide)
  have hb : (b >>> (f &&& 31)) &&& 1 = 0 ↔ bt b (qn f) = false := by
    have := b_has (n := qn f) (by omega) b
    rw [← ef] at this
    exact this
  refine qq_go_ok S (fun _ => false) 60 ?_
  conv => whnf
  refine ⟨fun h => ?_, fun h => ?_⟩
  · conv => whnf
    refine br_t rfl ?_
    conv => whnf
    exact h0 (by rw [hb.mp h]; decide)
  · conv => whnf
    refine br_f (by decide) ?_
    conv => whnf
    exact h1 (bt_not fun z => h (hb.mpr z))
set_option maxHeartbeats 4000000 in
set_option maxRecDepth 100000 in
theorem bd_X5_isBeginning : ∀ As w P K, qq_Sat ww_sh ww_ro cs_X5_isBeginning (qq_at 24 kd_X5_isBeginning) (some .boolean) P K → T_X5_isBeginning As w P → K 0 (lv_args 0 As) [] w := by
  intro As w P K S h
  unfold T_X5_isBeginning at h
  split at h
  · rename_i p f
    obtain ⟨hf, hq1, hq0⟩ := h
    refine qq_go_ok S (fun pc => Nat.beq pc 11) 60 ?_
    conv => whnf
    refine ⟨fun h => ?_, fun h => ?_⟩
    · conv => whnf
      exact hq0 fun z => h z.1
    have key : K 11 [(0, .ref 3), (1, .int p), (2, .int f)] [.int (cBegin w)] w := ib_11 S hf (fun z => hq1 ⟨h, z⟩) (fun z => hq0 fun y => z y.2)
    unfold cBegin at key
    conv => whnf
    refine ⟨fun h1 => ?_, fun h1 => ?_⟩
    · have h1 : ¬ w.1 2 2 = 1 := h1
      rw [if_neg h1] at key
      conv => whnf
      refine ⟨fun h2 => ?_, fun h2 => ?_⟩
      · have h2 : ¬ w.1 2 2 = 2 := h2
        rw [if_neg h2] at key
        conv => whnf
        exact qq_wk S key ⟨rfl, rfl, rfl, trivial⟩
      · have h2 : w.1 2 2 = 2 := h2
        rw [if_pos h2] at key
        conv => whnf
        exact qq_wk S key ⟨rfl, rfl, rfl, trivial⟩
    · have h1 : w.1 2 2 = 1 := h1
      rw [if_pos h1] at key
      conv => whnf
      refine ⟨i_in 8 (k := 0) rfl (by omega) (by decide), ?_⟩
      conv => whnf
      exact qq_wk S key ⟨rfl, rfl, rfl, trivial⟩
  · exact h.elim
theorem ha_X5_isBeginning : ∀ As w P, T_X5_isBeginning As w P → qq_wd As ≤ 3 := by
  intro As w P h
  unfold T_X5_isBeginning at h
  split at h
  · exact Nat.le_of_ble_eq_true rfl
  · exact h.elim
theorem hv_X5_isBeginning : ∀ As w P, T_X5_isBeginning As w P → ∃ (k : Nat) (r : List Value) (fs : List Nat), As = .ref k :: r ∧ ww_sh[k]? = some (.inr (5, fs)) := by
  intro As w P h
  unfold T_X5_isBeginning at h
  split at h
  · exact ⟨_, _, _, rfl, rfl⟩
  · exact h.elim
set_option maxRecDepth 100000 in
theorem M_X5_isBeginning (l : Launch) : qq_M l ww_T ww_N vwCl ww_sh ww_ro ww_zs yX5_isBeginning cX5_isBeginning 3 (some .boolean) (ww_rm 2) T_X5_isBeginning := by
  refine qq_mk (host := RX7) (is := ki_X5_isBeginning) (cs := cs_X5_isBeginning) (by decide) ww_k1 wl_X5 ww_so ww_so2 kc_X5_isBeginning kv_X5_isBeginning kg_X5_isBeginning ?_ ha_X5_isBeginning bd_X5_isBeginning
  intro k i q hi hq
  match k, hi, hq with
  | 0, hi, hq => cases hi; cases hq; exact fun p e s m args below meth c D tys tC ad Q pc X hdg => qq_cV (ci := 1) X ww_gd (M_X1_beginning l) kf_X1_beginning.1 (Or.inl (ww_a3 (i := 53) (w := Cond.methodLink RX5 74 yX1_beginning) rfl rfl)) kf_X1_beginning.2.1 kf_X1_beginning.2.2.1 kf_X1_beginning.2.2.2 ⟨by decide, by decide, by decide +kernel⟩ rfl rfl rfl ⟨by decide, by decide⟩ ⟨Nat.le_refl _, Nat.le_refl _⟩ hv_X1_beginning hdg
  | 1, hi, hq => cases hi; cases hq; exact fun p e s m args below meth c D tys tC ad Q pc X hdg => qq_cS X ww_gd (M_X7_has l) kf_X7_has.1 (Or.inr ⟨RX7, ww_n3 (i := 61) (w := Cond.methodLinkNest RX5 82 yX7_has RX7) rfl rfl⟩) kf_X7_has.2.1 kf_X7_has.2.2 ⟨by decide, by decide, by decide +kernel⟩ rfl rfl ⟨by decide, by decide⟩ ⟨Nat.le_refl _, Nat.le_refl _⟩ hdg
  | n + 2, hi, hq => simp [cs_X5_isBeginning] at hq
theorem lcmp_cases (x y : Int64) : (y < x ∧ lg_cmp x y = 1) ∨ (x = y ∧ lg_cmp x y = 0) ∨ (x < y ∧ lg_cmp x y = -1) := by
  unfold lg_cmp
  by_cases h : x > y
  · rw [if_pos h]; exact Or.inl ⟨h, rfl⟩
  · rw [if_neg h]
    by_cases h2 : x = y
    · rw [if_pos h2]; exact Or.inr (Or.inl ⟨h2, rfl⟩)
    · rw [if_neg h2]
      refine Or.inr (Or.inr ⟨?_, rfl⟩)
      rw [Int64.lt_iff_toInt_lt]
      have h : ¬ y < x := h
      rw [Int64.lt_iff_toInt_lt] at h
      have : x.toInt ≠ y.toInt := fun z => h2 (Int64.toInt_inj.mp z)
      omega
theorem lcmp_le {x y : Int64} : lg_cmp x y ≤ 0 ↔ ¬ y < x := by
  rcases lcmp_cases x y with ⟨h, e⟩ | ⟨h, e⟩ | ⟨h, e⟩ <;> rw [e]
  · exact ⟨fun z => absurd z (by decide), fun z => absurd h z⟩
  · subst h
    exact ⟨fun _ => by rw [Int64.lt_iff_toInt_lt]; omega, fun _ => by decide⟩
  · exact ⟨fun _ => by rw [Int64.lt_iff_toInt_lt] at *; omega, fun _ => by decide⟩
theorem lcmp_gt {x y : Int64} : 0 < lg_cmp x y ↔ y < x := by
  rcases lcmp_cases x y with ⟨h, e⟩ | ⟨h, e⟩ | ⟨h, e⟩ <;> rw [e]
  · exact ⟨fun _ => h, fun _ => by decide⟩
  · subst h
    exact ⟨fun z => absurd z (by decide), fun z => by rw [Int64.lt_iff_toInt_lt] at z; omega⟩
  · exact ⟨fun z => absurd z (by decide), fun z => by rw [Int64.lt_iff_toInt_lt] at *; omega⟩
theorem lcmp_lt {x y : Int64} : lg_cmp x y < 0 ↔ x < y := by
  rcases lcmp_cases x y with ⟨h, e⟩ | ⟨h, e⟩ | ⟨h, e⟩ <;> rw [e]
  · exact ⟨fun z => absurd z (by decide), fun z => by rw [Int64.lt_iff_toInt_lt] at *; omega⟩
  · subst h
    exact ⟨fun z => absurd z (by decide), fun z => by rw [Int64.lt_iff_toInt_lt] at z; omega⟩
  · exact ⟨fun _ => h, fun _ => by decide⟩
theorem lcmp_ge {x y : Int64} : 0 ≤ lg_cmp x y ↔ ¬ x < y := by
  rcases lcmp_cases x y with ⟨h, e⟩ | ⟨h, e⟩ | ⟨h, e⟩ <;> rw [e]
  · exact ⟨fun _ => by rw [Int64.lt_iff_toInt_lt] at *; omega, fun _ => by decide⟩
  · subst h
    exact ⟨fun _ => by rw [Int64.lt_iff_toInt_lt]; omega, fun _ => by decide⟩
  · exact ⟨fun z => absurd z (by decide), fun z => absurd h z⟩
abbrev cs_X8_far : List (Nat × qq_t) := []
/-- lengths: above the longest that is told all are alike -/
def lfar (v : Int64) : Int64 := if 1000000000000 < v then 1000000000000 else v
def T_X8_far : qq_t := fun As w P => match As with
  | [.long v] => True ∧ P (some (.long (lfar v))) w
  | _ => False
set_option maxHeartbeats 4000000 in
set_option maxRecDepth 100000 in
theorem bd_X8_far : ∀ As w P K, qq_Sat ww_sh ww_ro cs_X8_far (qq_at 16 kd_X8_far) (some .long) P K → T_X8_far As w P → K 0 (lv_args 0 As) [] w := by
  intro As w P K S h
  unfold T_X8_far at h
  split at h
  · rename_i v
    obtain ⟨-, hq⟩ := h
    unfold lfar at hq
    refine qq_go_ok S (fun _ => false) 20 ?_
    conv => whnf
    refine ⟨fun h1 => ?_, fun h1 => ?_⟩
    · conv => whnf
      rw [if_neg (lcmp_le.mp h1)] at hq
      exact hq
    · conv => whnf
      have : (1000000000000 : Int64) < v := by
        by_cases z : (1000000000000 : Int64) < v
        · exact z
        · exact absurd (lcmp_le.mpr z) h1
      rw [if_pos this] at hq
      exact hq
  · exact h.elim
theorem ha_X8_far : ∀ As w P, T_X8_far As w P → qq_wd As ≤ 2 := by
  intro As w P h
  unfold T_X8_far at h
  split at h
  · exact Nat.le_of_ble_eq_true rfl
  · exact h.elim
set_option maxRecDepth 100000 in
theorem M_X8_far (l : Launch) : qq_M l ww_T ww_N vwCl ww_sh ww_ro ww_zs yX8_far cX8_far 2 (some .long) (ww_rm 0) T_X8_far := by
  refine qq_mk (host := RX7) (is := ki_X8_far) (cs := cs_X8_far) (by decide) ww_k1 wl_X8 ww_so ww_so2 kc_X8_far kv_X8_far kg_X8_far ?_ ha_X8_far bd_X8_far
  intro k i q hi hq
  simp [cs_X8_far] at hq
abbrev cs_X2_by : List (Nat × qq_t) := [(3, T_X3_of), (3, T_X2_entry), (4, T_X2_level), (2, T_X2_sum)]
abbrev cLv (w : qq_w) (n d e : Nat) : Int64 := w.2 33 (169 * n + 13 * d + e)
abbrev cEn (w : qq_w) (p d : Nat) : Int64 := w.2 22 (13 * p + d)
def lsum (a b : Int64) : Int64 := lfar (a + b)
def cBy (w : qq_w) (n d e : Nat) : Int64 := if cEn w (qn (cX w n 0)) d = 2000000000000 ∨ cLv w n d e = 2000000000000 then 2000000000000 else lsum (cEn w (qn (cX w n 0)) d) (cLv w n d e)
theorem nI_lv {a b f : Int32} {n p i : Nat} (ha : a = nI n) (hb : b = nI p) (hf : f = nI i) : (a * 13 + b) * 13 + f = nI (169 * n + 13 * p + i) := by
  have e : (a * nI 13 + b) * nI 13 + f = nI (169 * n + 13 * p + i) := by
    rw [nI_ml ha hb rfl, hf, pk_mul, nI_add]
    congr 1
    omega
  exact e
def T_X2_by : qq_t := fun As w P => match As with
  | [.ref 4, .int a, .int d, .int e] => (vp_in a 64 ∧ vp_in d 13 ∧ vp_in e 13 ∧ vp_in (cX w (qn a) 0) 8) ∧ P (some (.long (cBy w (qn a) (qn d) (qn e)))) w
  | _ => False
set_option maxHeartbeats 4000000 in
set_option maxRecDepth 100000 in
theorem bd_X2_by : ∀ As w P K, qq_Sat ww_sh ww_ro cs_X2_by (qq_at 57 kd_X2_by) (some .long) P K → T_X2_by As w P → K 0 (lv_args 0 As) [] w := by
  intro As w P K S h
  unfold T_X2_by at h
  split at h
  · rename_i a d e
    obtain ⟨⟨hp, hp2, hp3, hp4⟩, hq⟩ := h
    obtain ⟨ea, ha⟩ := qn_eq hp (by decide)
    obtain ⟨ed, hd⟩ := qn_eq hp2 (by decide)
    obtain ⟨ee, he⟩ := qn_eq hp3 (by decide)
    obtain ⟨eo, ho⟩ := qn_eq hp4 (by decide)
    have i0 := nI_ml ea (x := 0) (i := 0) rfl (nI_lit 10)
    have c0 : w.1 13 (a * 10 + 0).toNatClampNeg = cX w (qn a) 0 := by rw [i_c i0 (by omega)]
    have iE : w.1 13 (a * 10 + 0).toNatClampNeg * 13 + d = nI (13 * qn (cX w (qn a) 0) + qn d) := by rw [c0]; exact nI_ml eo ed (nI_lit 13)
    have iL := nI_lv ea ed ee
    have cE : w.2 22 (w.1 13 (a * 10 + 0).toNatClampNeg * 13 + d).toNatClampNeg = cEn w (qn (cX w (qn a) 0)) (qn d) := by rw [i_c iE (by omega)]
    have cL : w.2 33 ((a * 13 + d) * 13 + e).toNatClampNeg = cLv w (qn a) (qn d) (qn e) := by rw [i_c iL (by omega)]
    unfold cBy at hq
    refine qq_go_ok S (fun _ => false) 60 ?_
    conv => whnf
    refine ⟨i_in 640 i0 (by omega) (by decide), ?_⟩
    conv => whnf
    refine ⟨i_in 104 iE (by omega) (by decide), ?_⟩
    conv => whnf
    refine ⟨i_in 10816 iL (by omega) (by decide), ?_⟩
    conv => whnf
    refine ⟨fun h => ?_, fun h => ?_⟩
    · have h := lcmp0.mp h
      have h : w.2 22 (w.1 13 (a * 10 + 0).toNatClampNeg * 13 + d).toNatClampNeg = 2000000000000 := h
      rw [cE] at h
      rw [if_pos (Or.inl h)] at hq
      conv => whnf
      exact hq
    · have h : ¬ w.2 22 (w.1 13 (a * 10 + 0).toNatClampNeg * 13 + d).toNatClampNeg = 2000000000000 := fun z => h (lcmp0.mpr z)
      rw [cE] at h
      conv => whnf
      refine ⟨fun h2 => ?_, fun h2 => ?_⟩
      · have h2 : ¬ w.2 33 ((a * 13 + d) * 13 + e).toNatClampNeg = 2000000000000 := fun z => h2 (lcmp0.mpr z)
        rw [cL] at h2
        rw [if_neg (fun z => z.elim h h2), ← cE, ← cL] at hq
        conv => whnf
        exact hq
      · have h2 := lcmp0.mp h2
        have h2 : w.2 33 ((a * 13 + d) * 13 + e).toNatClampNeg = 2000000000000 := h2
        rw [cL] at h2
        rw [if_pos (Or.inr h2)] at hq
        conv => whnf
        exact hq
  · exact h.elim
theorem ha_X2_by : ∀ As w P, T_X2_by As w P → qq_wd As ≤ 8 := by
  intro As w P h
  unfold T_X2_by at h
  split at h
  · exact Nat.le_of_ble_eq_true rfl
  · exact h.elim
theorem hv_X2_by : ∀ As w P, T_X2_by As w P → ∃ (k : Nat) (r : List Value) (fs : List Nat), As = .ref k :: r ∧ ww_sh[k]? = some (.inr (2, fs)) := by
  intro As w P h
  unfold T_X2_by at h
  split at h
  · exact ⟨_, _, _, rfl, rfl⟩
  · exact h.elim
set_option maxRecDepth 100000 in
theorem M_X2_by (l : Launch) : qq_M l ww_T ww_N vwCl ww_sh ww_ro ww_zs yX2_by cX2_by 8 (some .long) (ww_rm 2) T_X2_by := by
  refine qq_mk (host := RX7) (is := ki_X2_by) (cs := cs_X2_by) (by decide) ww_k1 wl_X2 ww_so ww_so2 kc_X2_by kv_X2_by kg_X2_by ?_ ha_X2_by bd_X2_by
  intro k i q hi hq
  match k, hi, hq with
  | 0, hi, hq => cases hi; cases hq; exact fun p e s m args below meth c D tys tC ad Q pc X hdg => qq_cV (ci := 3) X ww_gd (M_X3_of l) kf_X3_of.1 (Or.inl (ww_a3 (i := 220) (w := Cond.methodLink RX2 104 yX3_of) rfl rfl)) kf_X3_of.2.1 kf_X3_of.2.2.1 kf_X3_of.2.2.2 ⟨by decide, by decide, by decide +kernel⟩ rfl rfl rfl ⟨by decide, by decide⟩ ⟨Nat.le_refl _, Nat.le_refl _⟩ hv_X3_of hdg
  | 1, hi, hq => cases hi; cases hq; exact fun p e s m args below meth c D tys tC ad Q pc X hdg => qq_cV (ci := 2) X ww_gd (M_X2_entry l) kf_X2_entry.1 (Or.inl (ww_a4 (i := 27) (w := Cond.methodLink RX2 159 yX2_entry) rfl rfl)) kf_X2_entry.2.1 kf_X2_entry.2.2.1 kf_X2_entry.2.2.2 ⟨by decide, by decide, by decide +kernel⟩ rfl rfl rfl ⟨by decide, by decide⟩ ⟨Nat.le_refl _, Nat.le_refl _⟩ hv_X2_entry hdg
  | 2, hi, hq => cases hi; cases hq; exact fun p e s m args below meth c D tys tC ad Q pc X hdg => qq_cV (ci := 2) X ww_gd (M_X2_level l) kf_X2_level.1 (Or.inl (ww_a3 (i := 227) (w := Cond.methodLink RX2 117 yX2_level) rfl rfl)) kf_X2_level.2.1 kf_X2_level.2.2.1 kf_X2_level.2.2.2 ⟨by decide, by decide, by decide +kernel⟩ rfl rfl rfl ⟨by decide, by decide⟩ ⟨Nat.le_refl _, Nat.le_refl _⟩ hv_X2_level hdg
  | 3, hi, hq => cases hi; cases hq; exact fun p e s m args below meth c D tys tC ad Q pc X hdg => qq_cS X ww_gd (M_X2_sum l) kf_X2_sum.1 (Or.inl (ww_a3 (i := 231) (w := Cond.methodLink RX2 121 yX2_sum) rfl rfl)) kf_X2_sum.2.1 kf_X2_sum.2.2 ⟨by decide, by decide, by decide +kernel⟩ rfl rfl ⟨by decide, by decide⟩ ⟨Nat.le_refl _, Nat.le_refl _⟩ hdg
  | n + 4, hi, hq => simp [cs_X2_by] at hq
abbrev cs_X1_dropRows : List (Nat × qq_t) := [(2, T_X1_rowAt), (4, T_J7_fill_fda19)]
def T_X1_dropRows : qq_t := fun As w P => match As with
  | [.ref 2, .int a0, .int a1] => qq_go ww_sh ww_ro cs_X1_dropRows (qq_at 20 kd_X1_dropRows) none (fun _ => false) P qq_no 14 0 (lv_args 0 [.ref 2, .int a0, .int a1]) [] w
  | _ => False
theorem bd_X1_dropRows : ∀ As w P K, qq_Sat ww_sh ww_ro cs_X1_dropRows (qq_at 20 kd_X1_dropRows) none P K → T_X1_dropRows As w P → K 0 (lv_args 0 As) [] w := by
  intro As w P K S h
  unfold T_X1_dropRows at h
  split at h
  · exact qq_go_all S h
  · exact h.elim
theorem ha_X1_dropRows : ∀ As w P, T_X1_dropRows As w P → qq_wd As ≤ 4 := by
  intro As w P h
  unfold T_X1_dropRows at h
  split at h
  · exact Nat.le_of_ble_eq_true rfl
  · exact h.elim
theorem hv_X1_dropRows : ∀ As w P, T_X1_dropRows As w P → ∃ (k : Nat) (r : List Value) (fs : List Nat), As = .ref k :: r ∧ ww_sh[k]? = some (.inr (1, fs)) := by
  intro As w P h
  unfold T_X1_dropRows at h
  split at h
  · exact ⟨_, _, _, rfl, rfl⟩
  · exact h.elim
set_option maxRecDepth 100000 in
theorem M_X1_dropRows (l : Launch) : qq_M l ww_T ww_N vwCl ww_sh ww_ro ww_zs yX1_dropRows cX1_dropRows 4 none (ww_rm 2) T_X1_dropRows := by
  refine qq_mk (host := RX7) (is := ki_X1_dropRows) (cs := cs_X1_dropRows) (by decide) ww_k1 wl_X1 ww_so ww_so2 kc_X1_dropRows kv_X1_dropRows kg_X1_dropRows ?_ ha_X1_dropRows bd_X1_dropRows
  intro k i q hi hq
  match k, hi, hq with
  | 0, hi, hq => cases hi; cases hq; exact fun p e s m args below meth c D tys tC ad Q pc X hdg => qq_cS X ww_gd (M_X1_rowAt l) kf_X1_rowAt.1 (Or.inl (ww_a2 (i := 209) (w := Cond.methodLink RX1 29 yX1_rowAt) rfl rfl)) kf_X1_rowAt.2.1 kf_X1_rowAt.2.2 ⟨by decide, by decide, by decide +kernel⟩ rfl rfl ⟨by decide, by decide⟩ ⟨Nat.le_refl _, Nat.le_refl _⟩ hdg
  | 1, hi, hq => cases hi; cases hq; exact fun p e s m args below meth c D tys tC ad Q pc X hdg => qq_cS X ww_gd (M_J7_fill_fda19 l) kf_J7_fill_fda19.1 (Or.inl (ww_a2 (i := 228) (w := Cond.methodLink RX1 33 yJ7_fill_fda19) rfl rfl)) kf_J7_fill_fda19.2.1 kf_J7_fill_fda19.2.2 ⟨by decide, by decide, by decide +kernel⟩ rfl rfl ⟨by decide, by decide⟩ ⟨Nat.le_refl _, Nat.le_refl _⟩ hdg
  | n + 2, hi, hq => simp [cs_X1_dropRows] at hq
abbrev cs_X1_watched : List (Nat × qq_t) := [(3, T_X3_of), (3, T_X1_read)]
def T_X1_watched : qq_t := fun As w P => match As with
  | [.ref 2, .int a0] => qq_go ww_sh ww_ro cs_X1_watched (qq_at 55 kd_X1_watched) (some .int) (fun _ => false) P qq_no 33 0 (lv_args 0 [.ref 2, .int a0]) [] w
  | _ => False
theorem bd_X1_watched : ∀ As w P K, qq_Sat ww_sh ww_ro cs_X1_watched (qq_at 55 kd_X1_watched) (some .int) P K → T_X1_watched As w P → K 0 (lv_args 0 As) [] w := by
  intro As w P K S h
  unfold T_X1_watched at h
  split at h
  · exact qq_go_all S h
  · exact h.elim
theorem ha_X1_watched : ∀ As w P, T_X1_watched As w P → qq_wd As ≤ 3 := by
  intro As w P h
  unfold T_X1_watched at h
  split at h
  · exact Nat.le_of_ble_eq_true rfl
  · exact h.elim
theorem hv_X1_watched : ∀ As w P, T_X1_watched As w P → ∃ (k : Nat) (r : List Value) (fs : List Nat), As = .ref k :: r ∧ ww_sh[k]? = some (.inr (1, fs)) := by
  intro As w P h
  unfold T_X1_watched at h
  split at h
  · exact ⟨_, _, _, rfl, rfl⟩
  · exact h.elim
set_option maxRecDepth 100000 in
theorem M_X1_watched (l : Launch) : qq_M l ww_T ww_N vwCl ww_sh ww_ro ww_zs yX1_watched cX1_watched 3 (some .int) (ww_rm 3) T_X1_watched := by
  refine qq_mk (host := RX7) (is := ki_X1_watched) (cs := cs_X1_watched) (by decide) ww_k1 wl_X1 ww_so ww_so2 kc_X1_watched kv_X1_watched kg_X1_watched ?_ ha_X1_watched bd_X1_watched
  intro k i q hi hq
  match k, hi, hq with
  | 0, hi, hq => cases hi; cases hq; exact fun p e s m args below meth c D tys tC ad Q pc X hdg => qq_cV (ci := 3) X ww_gd (M_X3_of l) kf_X3_of.1 (Or.inl (ww_a3 (i := 11) (w := Cond.methodLink RX1 60 yX3_of) rfl rfl)) kf_X3_of.2.1 kf_X3_of.2.2.1 kf_X3_of.2.2.2 ⟨by decide, by decide, by decide +kernel⟩ rfl rfl rfl ⟨by decide, by decide⟩ ⟨Nat.le_refl _, Nat.le_refl _⟩ hv_X3_of hdg
  | 1, hi, hq => cases hi; cases hq; exact fun p e s m args below meth c D tys tC ad Q pc X hdg => qq_cV (ci := 1) X ww_gd (M_X1_read l) kf_X1_read.1 (Or.inl (ww_a4 (i := 132) (w := Cond.methodLink RX1 81 yX1_read) rfl rfl)) kf_X1_read.2.1 kf_X1_read.2.2.1 kf_X1_read.2.2.2 ⟨by decide, by decide, by decide +kernel⟩ rfl rfl rfl ⟨by decide, by decide⟩ ⟨Nat.le_refl _, Nat.le_refl _⟩ hv_X1_read hdg
  | n + 2, hi, hq => simp [cs_X1_watched] at hq
abbrev cs_X3_addProcedure : List (Nat × qq_t) := [(3, T_X3_addNode)]
def T_X3_addProcedure : qq_t := fun As w P => match As with
  | [.ref 1, .int a0, .int a1] => qq_go ww_sh ww_ro cs_X3_addProcedure (qq_at 58 kd_X3_addProcedure) (some .int) (fun _ => false) P qq_no 40 0 (lv_args 0 [.ref 1, .int a0, .int a1]) [] w
  | _ => False
theorem bd_X3_addProcedure : ∀ As w P K, qq_Sat ww_sh ww_ro cs_X3_addProcedure (qq_at 58 kd_X3_addProcedure) (some .int) P K → T_X3_addProcedure As w P → K 0 (lv_args 0 As) [] w := by
  intro As w P K S h
  unfold T_X3_addProcedure at h
  split at h
  · exact qq_go_all S h
  · exact h.elim
theorem ha_X3_addProcedure : ∀ As w P, T_X3_addProcedure As w P → qq_wd As ≤ 4 := by
  intro As w P h
  unfold T_X3_addProcedure at h
  split at h
  · exact Nat.le_of_ble_eq_true rfl
  · exact h.elim
theorem hv_X3_addProcedure : ∀ As w P, T_X3_addProcedure As w P → ∃ (k : Nat) (r : List Value) (fs : List Nat), As = .ref k :: r ∧ ww_sh[k]? = some (.inr (3, fs)) := by
  intro As w P h
  unfold T_X3_addProcedure at h
  split at h
  · exact ⟨_, _, _, rfl, rfl⟩
  · exact h.elim
set_option maxRecDepth 100000 in
theorem M_X3_addProcedure (l : Launch) : qq_M l ww_T ww_N vwCl ww_sh ww_ro ww_zs yX3_addProcedure cX3_addProcedure 4 (some .int) (ww_rm 2) T_X3_addProcedure := by
  refine qq_mk (host := RX7) (is := ki_X3_addProcedure) (cs := cs_X3_addProcedure) (by decide) ww_k1 wl_X3 ww_so ww_so2 kc_X3_addProcedure kv_X3_addProcedure kg_X3_addProcedure ?_ ha_X3_addProcedure bd_X3_addProcedure
  intro k i q hi hq
  match k, hi, hq with
  | 0, hi, hq => cases hi; cases hq; exact fun p e s m args below meth c D tys tC ad Q pc X hdg => qq_cV (ci := 3) X ww_gd (M_X3_addNode l) kf_X3_addNode.1 (Or.inl (ww_a2 (i := 76) (w := Cond.methodLink RX3 62 yX3_addNode) rfl rfl)) kf_X3_addNode.2.1 kf_X3_addNode.2.2.1 kf_X3_addNode.2.2.2 ⟨by decide, by decide, by decide +kernel⟩ rfl rfl rfl ⟨by decide, by decide⟩ ⟨Nat.le_refl _, Nat.le_refl _⟩ hv_X3_addNode hdg
  | n + 1, hi, hq => simp [cs_X3_addProcedure] at hq
abbrev cs_X4_clear : List (Nat × qq_t) := [(4, T_J7_fill_bad5a), (4, T_J7_fill_fda19)]
def T_X4_clear : qq_t := fun As w P => match As with
  | [.ref 7, .int a0] => qq_go ww_sh ww_ro cs_X4_clear (qq_at 28 kd_X4_clear) none (fun _ => false) P qq_no 17 0 (lv_args 0 [.ref 7, .int a0]) [] w
  | _ => False
theorem bd_X4_clear : ∀ As w P K, qq_Sat ww_sh ww_ro cs_X4_clear (qq_at 28 kd_X4_clear) none P K → T_X4_clear As w P → K 0 (lv_args 0 As) [] w := by
  intro As w P K S h
  unfold T_X4_clear at h
  split at h
  · exact qq_go_all S h
  · exact h.elim
theorem ha_X4_clear : ∀ As w P, T_X4_clear As w P → qq_wd As ≤ 2 := by
  intro As w P h
  unfold T_X4_clear at h
  split at h
  · exact Nat.le_of_ble_eq_true rfl
  · exact h.elim
theorem hv_X4_clear : ∀ As w P, T_X4_clear As w P → ∃ (k : Nat) (r : List Value) (fs : List Nat), As = .ref k :: r ∧ ww_sh[k]? = some (.inr (4, fs)) := by
  intro As w P h
  unfold T_X4_clear at h
  split at h
  · exact ⟨_, _, _, rfl, rfl⟩
  · exact h.elim
set_option maxRecDepth 100000 in
theorem M_X4_clear (l : Launch) : qq_M l ww_T ww_N vwCl ww_sh ww_ro ww_zs yX4_clear cX4_clear 2 none (ww_rm 2) T_X4_clear := by
  refine qq_mk (host := RX7) (is := ki_X4_clear) (cs := cs_X4_clear) (by decide) ww_k1 wl_X4 ww_so ww_so2 kc_X4_clear kv_X4_clear kg_X4_clear ?_ ha_X4_clear bd_X4_clear
  intro k i q hi hq
  match k, hi, hq with
  | 0, hi, hq => cases hi; cases hq; exact fun p e s m args below meth c D tys tC ad Q pc X hdg => qq_cS X ww_gd (M_J7_fill_bad5a l) kf_J7_fill_bad5a.1 (Or.inl (ww_a3 (i := 190) (w := Cond.methodLink RX4 24 yJ7_fill_bad5a) rfl rfl)) kf_J7_fill_bad5a.2.1 kf_J7_fill_bad5a.2.2 ⟨by decide, by decide, by decide +kernel⟩ rfl rfl ⟨by decide, by decide⟩ ⟨Nat.le_refl _, Nat.le_refl _⟩ hdg
  | 1, hi, hq => cases hi; cases hq; exact fun p e s m args below meth c D tys tC ad Q pc X hdg => qq_cS X ww_gd (M_J7_fill_fda19 l) kf_J7_fill_fda19.1 (Or.inl (ww_a3 (i := 193) (w := Cond.methodLink RX4 30 yJ7_fill_fda19) rfl rfl)) kf_J7_fill_fda19.2.1 kf_J7_fill_fda19.2.2 ⟨by decide, by decide, by decide +kernel⟩ rfl rfl ⟨by decide, by decide⟩ ⟨Nat.le_refl _, Nat.le_refl _⟩ hdg
  | n + 2, hi, hq => simp [cs_X4_clear] at hq
abbrev cs_X7_procedure : List (Nat × qq_t) := [(2, T_X7_isWithin), (2, T_J9_min_7cf53), (2, T_X3_hasRoomFor), (1, T_X7_endSolving), (3, T_X3_addProcedure)]
def T_X7_procedure : qq_t := fun As w P => match As with
  | [.ref 0, .int a0, .int a1] => qq_go ww_sh ww_ro cs_X7_procedure (qq_at 65 kd_X7_procedure) (some .int) (fun _ => false) P qq_no 35 0 (lv_args 0 [.ref 0, .int a0, .int a1]) [] w
  | _ => False
theorem bd_X7_procedure : ∀ As w P K, qq_Sat ww_sh ww_ro cs_X7_procedure (qq_at 65 kd_X7_procedure) (some .int) P K → T_X7_procedure As w P → K 0 (lv_args 0 As) [] w := by
  intro As w P K S h
  unfold T_X7_procedure at h
  split at h
  · exact qq_go_all S h
  · exact h.elim
theorem ha_X7_procedure : ∀ As w P, T_X7_procedure As w P → qq_wd As ≤ 3 := by
  intro As w P h
  unfold T_X7_procedure at h
  split at h
  · exact Nat.le_of_ble_eq_true rfl
  · exact h.elim
theorem hv_X7_procedure : ∀ As w P, T_X7_procedure As w P → ∃ (k : Nat) (r : List Value) (fs : List Nat), As = .ref k :: r ∧ ww_sh[k]? = some (.inr (7, fs)) := by
  intro As w P h
  unfold T_X7_procedure at h
  split at h
  · exact ⟨_, _, _, rfl, rfl⟩
  · exact h.elim
set_option maxRecDepth 100000 in
theorem M_X7_procedure (l : Launch) : qq_M l ww_T ww_N vwCl ww_sh ww_ro ww_zs yX7_procedure cX7_procedure 3 (some .int) (ww_rm 3) T_X7_procedure := by
  refine qq_mk (host := RX7) (is := ki_X7_procedure) (cs := cs_X7_procedure) (by decide) ww_k1 wl_X7 ww_so ww_so2 kc_X7_procedure kv_X7_procedure kg_X7_procedure ?_ ha_X7_procedure bd_X7_procedure
  intro k i q hi hq
  match k, hi, hq with
  | 0, hi, hq => cases hi; cases hq; exact fun p e s m args below meth c D tys tC ad Q pc X hdg => qq_cS X ww_gd (M_X7_isWithin l) kf_X7_isWithin.1 (Or.inl (ww_a2 (i := 50) (w := Cond.methodLink RX7 59 yX7_isWithin) rfl rfl)) kf_X7_isWithin.2.1 kf_X7_isWithin.2.2 ⟨by decide, by decide, by decide +kernel⟩ rfl rfl ⟨by decide, by decide⟩ ⟨Nat.le_refl _, Nat.le_refl _⟩ hdg
  | 1, hi, hq => cases hi; cases hq; exact cf_mmin (by decide) (ww_a2 (i := 53) (w := Cond.methodLink RX7 63 Lib.Math.min.name) rfl rfl)
  | 2, hi, hq => cases hi; cases hq; exact fun p e s m args below meth c D tys tC ad Q pc X hdg => qq_cV (ci := 3) X ww_gd (M_X3_hasRoomFor l) kf_X3_hasRoomFor.1 (Or.inl (ww_a2 (i := 56) (w := Cond.methodLink RX7 73 yX3_hasRoomFor) rfl rfl)) kf_X3_hasRoomFor.2.1 kf_X3_hasRoomFor.2.2.1 kf_X3_hasRoomFor.2.2.2 ⟨by decide, by decide, by decide +kernel⟩ rfl rfl rfl ⟨by decide, by decide⟩ ⟨Nat.le_refl _, Nat.le_refl _⟩ hv_X3_hasRoomFor hdg
  | 3, hi, hq => cases hi; cases hq; exact fun p e s m args below meth c D tys tC ad Q pc X hdg => qq_cV (ci := 7) X ww_gd (M_X7_endSolving l) kf_X7_endSolving.1 (Or.inl (ww_a2 (i := 60) (w := Cond.methodLink RX7 77 yX7_endSolving) rfl rfl)) kf_X7_endSolving.2.1 kf_X7_endSolving.2.2.1 kf_X7_endSolving.2.2.2 ⟨by decide, by decide, by decide +kernel⟩ rfl rfl rfl ⟨by decide, by decide⟩ ⟨Nat.le_refl _, Nat.le_refl _⟩ hv_X7_endSolving hdg
  | 4, hi, hq => cases hi; cases hq; exact fun p e s m args below meth c D tys tC ad Q pc X hdg => qq_cV (ci := 3) X ww_gd (M_X3_addProcedure l) kf_X3_addProcedure.1 (Or.inl (ww_a2 (i := 72) (w := Cond.methodLink RX7 80 yX3_addProcedure) rfl rfl)) kf_X3_addProcedure.2.1 kf_X3_addProcedure.2.2.1 kf_X3_addProcedure.2.2.2 ⟨by decide, by decide, by decide +kernel⟩ rfl rfl rfl ⟨by decide, by decide⟩ ⟨Nat.le_refl _, Nat.le_refl _⟩ hv_X3_addProcedure hdg
  | n + 5, hi, hq => simp [cs_X7_procedure] at hq
abbrev cs_X7_node : List (Nat × qq_t) := [(2, T_X3_hasProcedure), (2, T_X3_isUnder), (3, T_X3_hasVariable), (2, T_X3_hasRoomFor), (1, T_X7_endSolving), (3, T_X3_addNode), (4, T_X3_tell)]
def T_X7_node : qq_t := fun As w P => match As with
  | [.ref 0, .int a0, .int a1, .int a2, .int a3, .int a4] => qq_go ww_sh ww_ro cs_X7_node (qq_at 207 kd_X7_node) (some .int) (fun _ => false) P qq_no 105 0 (lv_args 0 [.ref 0, .int a0, .int a1, .int a2, .int a3, .int a4]) [] w
  | _ => False
theorem bd_X7_node : ∀ As w P K, qq_Sat ww_sh ww_ro cs_X7_node (qq_at 207 kd_X7_node) (some .int) P K → T_X7_node As w P → K 0 (lv_args 0 As) [] w := by
  intro As w P K S h
  unfold T_X7_node at h
  split at h
  · exact qq_go_all S h
  · exact h.elim
theorem ha_X7_node : ∀ As w P, T_X7_node As w P → qq_wd As ≤ 10 := by
  intro As w P h
  unfold T_X7_node at h
  split at h
  · exact Nat.le_of_ble_eq_true rfl
  · exact h.elim
theorem hv_X7_node : ∀ As w P, T_X7_node As w P → ∃ (k : Nat) (r : List Value) (fs : List Nat), As = .ref k :: r ∧ ww_sh[k]? = some (.inr (7, fs)) := by
  intro As w P h
  unfold T_X7_node at h
  split at h
  · exact ⟨_, _, _, rfl, rfl⟩
  · exact h.elim
set_option maxRecDepth 100000 in
theorem M_X7_node (l : Launch) : qq_M l ww_T ww_N vwCl ww_sh ww_ro ww_zs yX7_node cX7_node 10 (some .int) (ww_rm 2) T_X7_node := by
  refine qq_mk (host := RX7) (is := ki_X7_node) (cs := cs_X7_node) (by decide) ww_k1 wl_X7 ww_so ww_so2 kc_X7_node kv_X7_node kg_X7_node ?_ ha_X7_node bd_X7_node
  intro k i q hi hq
  match k, hi, hq with
  | 0, hi, hq => cases hi; cases hq; exact fun p e s m args below meth c D tys tC ad Q pc X hdg => qq_cV (ci := 3) X ww_gd (M_X3_hasProcedure l) kf_X3_hasProcedure.1 (Or.inl (ww_a2 (i := 88) (w := Cond.methodLink RX7 83 yX3_hasProcedure) rfl rfl)) kf_X3_hasProcedure.2.1 kf_X3_hasProcedure.2.2.1 kf_X3_hasProcedure.2.2.2 ⟨by decide, by decide, by decide +kernel⟩ rfl rfl rfl ⟨by decide, by decide⟩ ⟨Nat.le_refl _, Nat.le_refl _⟩ hv_X3_hasProcedure hdg
  | 1, hi, hq => cases hi; cases hq; exact fun p e s m args below meth c D tys tC ad Q pc X hdg => qq_cS X ww_gd (M_X3_isUnder l) kf_X3_isUnder.1 (Or.inl (ww_a2 (i := 109) (w := Cond.methodLink RX7 100 yX3_isUnder) rfl rfl)) kf_X3_isUnder.2.1 kf_X3_isUnder.2.2 ⟨by decide, by decide, by decide +kernel⟩ rfl rfl ⟨by decide, by decide⟩ ⟨Nat.le_refl _, Nat.le_refl _⟩ hdg
  | 2, hi, hq => cases hi; cases hq; exact fun p e s m args below meth c D tys tC ad Q pc X hdg => qq_cV (ci := 3) X ww_gd (M_X3_hasVariable l) kf_X3_hasVariable.1 (Or.inl (ww_a2 (i := 101) (w := Cond.methodLink RX7 94 yX3_hasVariable) rfl rfl)) kf_X3_hasVariable.2.1 kf_X3_hasVariable.2.2.1 kf_X3_hasVariable.2.2.2 ⟨by decide, by decide, by decide +kernel⟩ rfl rfl rfl ⟨by decide, by decide⟩ ⟨Nat.le_refl _, Nat.le_refl _⟩ hv_X3_hasVariable hdg
  | 3, hi, hq => cases hi; cases hq; exact fun p e s m args below meth c D tys tC ad Q pc X hdg => qq_cV (ci := 3) X ww_gd (M_X3_hasRoomFor l) kf_X3_hasRoomFor.1 (Or.inl (ww_a2 (i := 56) (w := Cond.methodLink RX7 73 yX3_hasRoomFor) rfl rfl)) kf_X3_hasRoomFor.2.1 kf_X3_hasRoomFor.2.2.1 kf_X3_hasRoomFor.2.2.2 ⟨by decide, by decide, by decide +kernel⟩ rfl rfl rfl ⟨by decide, by decide⟩ ⟨Nat.le_refl _, Nat.le_refl _⟩ hv_X3_hasRoomFor hdg
  | 4, hi, hq => cases hi; cases hq; exact fun p e s m args below meth c D tys tC ad Q pc X hdg => qq_cV (ci := 7) X ww_gd (M_X7_endSolving l) kf_X7_endSolving.1 (Or.inl (ww_a2 (i := 60) (w := Cond.methodLink RX7 77 yX7_endSolving) rfl rfl)) kf_X7_endSolving.2.1 kf_X7_endSolving.2.2.1 kf_X7_endSolving.2.2.2 ⟨by decide, by decide, by decide +kernel⟩ rfl rfl rfl ⟨by decide, by decide⟩ ⟨Nat.le_refl _, Nat.le_refl _⟩ hv_X7_endSolving hdg
  | 5, hi, hq => cases hi; cases hq; exact fun p e s m args below meth c D tys tC ad Q pc X hdg => qq_cV (ci := 3) X ww_gd (M_X3_addNode l) kf_X3_addNode.1 (Or.inl (ww_a2 (i := 114) (w := Cond.methodLink RX7 103 yX3_addNode) rfl rfl)) kf_X3_addNode.2.1 kf_X3_addNode.2.2.1 kf_X3_addNode.2.2.2 ⟨by decide, by decide, by decide +kernel⟩ rfl rfl rfl ⟨by decide, by decide⟩ ⟨Nat.le_refl _, Nat.le_refl _⟩ hv_X3_addNode hdg
  | 6, hi, hq => cases hi; cases hq; exact fun p e s m args below meth c D tys tC ad Q pc X hdg => qq_cV (ci := 3) X ww_gd (M_X3_tell l) kf_X3_tell.1 (Or.inl (ww_a2 (i := 115) (w := Cond.methodLink RX7 106 yX3_tell) rfl rfl)) kf_X3_tell.2.1 kf_X3_tell.2.2.1 kf_X3_tell.2.2.2 ⟨by decide, by decide, by decide +kernel⟩ rfl rfl rfl ⟨by decide, by decide⟩ ⟨Nat.le_refl _, Nat.le_refl _⟩ hv_X3_tell hdg
  | n + 7, hi, hq => simp [cs_X7_node] at hq
abbrev cs_X7_call : List (Nat × qq_t) := [(2, T_X3_hasProcedure), (3, T_X3_hasVariable), (2, T_X3_hasRoomFor), (2, T_X0_answer), (1, T_X7_endSolving), (5, T_X3_addCall)]
def T_X7_call : qq_t := fun As w P => match As with
  | [.ref 0, .int a0, .int a1, .int a2, .int a3] => qq_go ww_sh ww_ro cs_X7_call (qq_at 95 kd_X7_call) (some .int) (fun _ => false) P qq_no 51 0 (lv_args 0 [.ref 0, .int a0, .int a1, .int a2, .int a3]) [] w
  | _ => False
theorem bd_X7_call : ∀ As w P K, qq_Sat ww_sh ww_ro cs_X7_call (qq_at 95 kd_X7_call) (some .int) P K → T_X7_call As w P → K 0 (lv_args 0 As) [] w := by
  intro As w P K S h
  unfold T_X7_call at h
  split at h
  · exact qq_go_all S h
  · exact h.elim
theorem ha_X7_call : ∀ As w P, T_X7_call As w P → qq_wd As ≤ 5 := by
  intro As w P h
  unfold T_X7_call at h
  split at h
  · exact Nat.le_of_ble_eq_true rfl
  · exact h.elim
theorem hv_X7_call : ∀ As w P, T_X7_call As w P → ∃ (k : Nat) (r : List Value) (fs : List Nat), As = .ref k :: r ∧ ww_sh[k]? = some (.inr (7, fs)) := by
  intro As w P h
  unfold T_X7_call at h
  split at h
  · exact ⟨_, _, _, rfl, rfl⟩
  · exact h.elim
set_option maxRecDepth 100000 in
theorem M_X7_call (l : Launch) : qq_M l ww_T ww_N vwCl ww_sh ww_ro ww_zs yX7_call cX7_call 5 (some .int) (ww_rm 3) T_X7_call := by
  refine qq_mk (host := RX7) (is := ki_X7_call) (cs := cs_X7_call) (by decide) ww_k1 wl_X7 ww_so ww_so2 kc_X7_call kv_X7_call kg_X7_call ?_ ha_X7_call bd_X7_call
  intro k i q hi hq
  match k, hi, hq with
  | 0, hi, hq => cases hi; cases hq; exact fun p e s m args below meth c D tys tC ad Q pc X hdg => qq_cV (ci := 3) X ww_gd (M_X3_hasProcedure l) kf_X3_hasProcedure.1 (Or.inl (ww_a2 (i := 88) (w := Cond.methodLink RX7 83 yX3_hasProcedure) rfl rfl)) kf_X3_hasProcedure.2.1 kf_X3_hasProcedure.2.2.1 kf_X3_hasProcedure.2.2.2 ⟨by decide, by decide, by decide +kernel⟩ rfl rfl rfl ⟨by decide, by decide⟩ ⟨Nat.le_refl _, Nat.le_refl _⟩ hv_X3_hasProcedure hdg
  | 1, hi, hq => cases hi; cases hq; exact fun p e s m args below meth c D tys tC ad Q pc X hdg => qq_cV (ci := 3) X ww_gd (M_X3_hasVariable l) kf_X3_hasVariable.1 (Or.inl (ww_a2 (i := 101) (w := Cond.methodLink RX7 94 yX3_hasVariable) rfl rfl)) kf_X3_hasVariable.2.1 kf_X3_hasVariable.2.2.1 kf_X3_hasVariable.2.2.2 ⟨by decide, by decide, by decide +kernel⟩ rfl rfl rfl ⟨by decide, by decide⟩ ⟨Nat.le_refl _, Nat.le_refl _⟩ hv_X3_hasVariable hdg
  | 2, hi, hq => cases hi; cases hq; exact fun p e s m args below meth c D tys tC ad Q pc X hdg => qq_cV (ci := 3) X ww_gd (M_X3_hasRoomFor l) kf_X3_hasRoomFor.1 (Or.inl (ww_a2 (i := 56) (w := Cond.methodLink RX7 73 yX3_hasRoomFor) rfl rfl)) kf_X3_hasRoomFor.2.1 kf_X3_hasRoomFor.2.2.1 kf_X3_hasRoomFor.2.2.2 ⟨by decide, by decide, by decide +kernel⟩ rfl rfl rfl ⟨by decide, by decide⟩ ⟨Nat.le_refl _, Nat.le_refl _⟩ hv_X3_hasRoomFor hdg
  | 3, hi, hq => cases hi; cases hq; exact fun p e s m args below meth c D tys tC ad Q pc X hdg => qq_cV (ci := 0) X ww_gd (M_X0_answer l) kf_X0_answer.1 (Or.inl (ww_a2 (i := 120) (w := Cond.methodLink RX7 110 yX0_answer) rfl rfl)) kf_X0_answer.2.1 kf_X0_answer.2.2.1 kf_X0_answer.2.2.2 ⟨by decide, by decide, by decide +kernel⟩ rfl rfl rfl ⟨by decide, by decide⟩ ⟨Nat.le_refl _, Nat.le_refl _⟩ hv_X0_answer hdg
  | 4, hi, hq => cases hi; cases hq; exact fun p e s m args below meth c D tys tC ad Q pc X hdg => qq_cV (ci := 7) X ww_gd (M_X7_endSolving l) kf_X7_endSolving.1 (Or.inl (ww_a2 (i := 60) (w := Cond.methodLink RX7 77 yX7_endSolving) rfl rfl)) kf_X7_endSolving.2.1 kf_X7_endSolving.2.2.1 kf_X7_endSolving.2.2.2 ⟨by decide, by decide, by decide +kernel⟩ rfl rfl rfl ⟨by decide, by decide⟩ ⟨Nat.le_refl _, Nat.le_refl _⟩ hv_X7_endSolving hdg
  | 5, hi, hq => cases hi; cases hq; exact fun p e s m args below meth c D tys tC ad Q pc X hdg => qq_cV (ci := 3) X ww_gd (M_X3_addCall l) kf_X3_addCall.1 (Or.inl (ww_a2 (i := 124) (w := Cond.methodLink RX7 113 yX3_addCall) rfl rfl)) kf_X3_addCall.2.1 kf_X3_addCall.2.2.1 kf_X3_addCall.2.2.2 ⟨by decide, by decide, by decide +kernel⟩ rfl rfl rfl ⟨by decide, by decide⟩ ⟨Nat.le_refl _, Nat.le_refl _⟩ hv_X3_addCall hdg
  | n + 6, hi, hq => simp [cs_X7_call] at hq
abbrev cs_X7_edge : List (Nat × qq_t) := [(2, T_X3_hasNode), (3, T_X3_mayLead), (3, T_X3_edgeBetween), (1, T_X7_endSolving), (3, T_X3_addEdge)]
def T_X7_edge : qq_t := fun As w P => match As with
  | [.ref 0, .int a0, .int a1] => qq_go ww_sh ww_ro cs_X7_edge (qq_at 83 kd_X7_edge) (some .int) (fun _ => false) P qq_no 45 0 (lv_args 0 [.ref 0, .int a0, .int a1]) [] w
  | _ => False
theorem bd_X7_edge : ∀ As w P K, qq_Sat ww_sh ww_ro cs_X7_edge (qq_at 83 kd_X7_edge) (some .int) P K → T_X7_edge As w P → K 0 (lv_args 0 As) [] w := by
  intro As w P K S h
  unfold T_X7_edge at h
  split at h
  · exact qq_go_all S h
  · exact h.elim
theorem ha_X7_edge : ∀ As w P, T_X7_edge As w P → qq_wd As ≤ 4 := by
  intro As w P h
  unfold T_X7_edge at h
  split at h
  · exact Nat.le_of_ble_eq_true rfl
  · exact h.elim
theorem hv_X7_edge : ∀ As w P, T_X7_edge As w P → ∃ (k : Nat) (r : List Value) (fs : List Nat), As = .ref k :: r ∧ ww_sh[k]? = some (.inr (7, fs)) := by
  intro As w P h
  unfold T_X7_edge at h
  split at h
  · exact ⟨_, _, _, rfl, rfl⟩
  · exact h.elim
set_option maxRecDepth 100000 in
theorem M_X7_edge (l : Launch) : qq_M l ww_T ww_N vwCl ww_sh ww_ro ww_zs yX7_edge cX7_edge 4 (some .int) (ww_rm 2) T_X7_edge := by
  refine qq_mk (host := RX7) (is := ki_X7_edge) (cs := cs_X7_edge) (by decide) ww_k1 wl_X7 ww_so ww_so2 kc_X7_edge kv_X7_edge kg_X7_edge ?_ ha_X7_edge bd_X7_edge
  intro k i q hi hq
  match k, hi, hq with
  | 0, hi, hq => cases hi; cases hq; exact fun p e s m args below meth c D tys tC ad Q pc X hdg => qq_cV (ci := 3) X ww_gd (M_X3_hasNode l) kf_X3_hasNode.1 (Or.inl (ww_a2 (i := 132) (w := Cond.methodLink RX7 117 yX3_hasNode) rfl rfl)) kf_X3_hasNode.2.1 kf_X3_hasNode.2.2.1 kf_X3_hasNode.2.2.2 ⟨by decide, by decide, by decide +kernel⟩ rfl rfl rfl ⟨by decide, by decide⟩ ⟨Nat.le_refl _, Nat.le_refl _⟩ hv_X3_hasNode hdg
  | 1, hi, hq => cases hi; cases hq; exact fun p e s m args below meth c D tys tC ad Q pc X hdg => qq_cV (ci := 3) X ww_gd (M_X3_mayLead l) kf_X3_mayLead.1 (Or.inl (ww_a2 (i := 160) (w := Cond.methodLink RX7 139 yX3_mayLead) rfl rfl)) kf_X3_mayLead.2.1 kf_X3_mayLead.2.2.1 kf_X3_mayLead.2.2.2 ⟨by decide, by decide, by decide +kernel⟩ rfl rfl rfl ⟨by decide, by decide⟩ ⟨Nat.le_refl _, Nat.le_refl _⟩ hv_X3_mayLead hdg
  | 2, hi, hq => cases hi; cases hq; exact fun p e s m args below meth c D tys tC ad Q pc X hdg => qq_cV (ci := 3) X ww_gd (M_X3_edgeBetween l) kf_X3_edgeBetween.1 (Or.inl (ww_a2 (i := 164) (w := Cond.methodLink RX7 142 yX3_edgeBetween) rfl rfl)) kf_X3_edgeBetween.2.1 kf_X3_edgeBetween.2.2.1 kf_X3_edgeBetween.2.2.2 ⟨by decide, by decide, by decide +kernel⟩ rfl rfl rfl ⟨by decide, by decide⟩ ⟨Nat.le_refl _, Nat.le_refl _⟩ hv_X3_edgeBetween hdg
  | 3, hi, hq => cases hi; cases hq; exact fun p e s m args below meth c D tys tC ad Q pc X hdg => qq_cV (ci := 7) X ww_gd (M_X7_endSolving l) kf_X7_endSolving.1 (Or.inl (ww_a2 (i := 60) (w := Cond.methodLink RX7 77 yX7_endSolving) rfl rfl)) kf_X7_endSolving.2.1 kf_X7_endSolving.2.2.1 kf_X7_endSolving.2.2.2 ⟨by decide, by decide, by decide +kernel⟩ rfl rfl rfl ⟨by decide, by decide⟩ ⟨Nat.le_refl _, Nat.le_refl _⟩ hv_X7_endSolving hdg
  | 4, hi, hq => cases hi; cases hq; exact fun p e s m args below meth c D tys tC ad Q pc X hdg => qq_cV (ci := 3) X ww_gd (M_X3_addEdge l) kf_X3_addEdge.1 (Or.inl (ww_a2 (i := 168) (w := Cond.methodLink RX7 148 yX3_addEdge) rfl rfl)) kf_X3_addEdge.2.1 kf_X3_addEdge.2.2.1 kf_X3_addEdge.2.2.2 ⟨by decide, by decide, by decide +kernel⟩ rfl rfl rfl ⟨by decide, by decide⟩ ⟨Nat.le_refl _, Nat.le_refl _⟩ hv_X3_addEdge hdg
  | n + 5, hi, hq => simp [cs_X7_edge] at hq
abbrev cs_X7_is : List (Nat × qq_t) := [(2, T_X3_hasNode), (2, T_X7_isWithin), (3, T_X3_of), (2, T_X3_isUnder)]
def T_X7_is : qq_t := fun As w P => match As with
  | [.ref 0, .int a0, .int a1] => qq_go ww_sh ww_ro cs_X7_is (qq_at 44 kd_X7_is) (some .int) (fun _ => false) P qq_no 24 0 (lv_args 0 [.ref 0, .int a0, .int a1]) [] w
  | _ => False
theorem bd_X7_is : ∀ As w P K, qq_Sat ww_sh ww_ro cs_X7_is (qq_at 44 kd_X7_is) (some .int) P K → T_X7_is As w P → K 0 (lv_args 0 As) [] w := by
  intro As w P K S h
  unfold T_X7_is at h
  split at h
  · exact qq_go_all S h
  · exact h.elim
theorem ha_X7_is : ∀ As w P, T_X7_is As w P → qq_wd As ≤ 3 := by
  intro As w P h
  unfold T_X7_is at h
  split at h
  · exact Nat.le_of_ble_eq_true rfl
  · exact h.elim
theorem hv_X7_is : ∀ As w P, T_X7_is As w P → ∃ (k : Nat) (r : List Value) (fs : List Nat), As = .ref k :: r ∧ ww_sh[k]? = some (.inr (7, fs)) := by
  intro As w P h
  unfold T_X7_is at h
  split at h
  · exact ⟨_, _, _, rfl, rfl⟩
  · exact h.elim
set_option maxRecDepth 100000 in
theorem M_X7_is (l : Launch) : qq_M l ww_T ww_N vwCl ww_sh ww_ro ww_zs yX7_is cX7_is 3 (some .int) (ww_rm 2) T_X7_is := by
  refine qq_mk (host := RX7) (is := ki_X7_is) (cs := cs_X7_is) (by decide) ww_k1 wl_X7 ww_so ww_so2 kc_X7_is kv_X7_is kg_X7_is ?_ ha_X7_is bd_X7_is
  intro k i q hi hq
  match k, hi, hq with
  | 0, hi, hq => cases hi; cases hq; exact fun p e s m args below meth c D tys tC ad Q pc X hdg => qq_cV (ci := 3) X ww_gd (M_X3_hasNode l) kf_X3_hasNode.1 (Or.inl (ww_a2 (i := 132) (w := Cond.methodLink RX7 117 yX3_hasNode) rfl rfl)) kf_X3_hasNode.2.1 kf_X3_hasNode.2.2.1 kf_X3_hasNode.2.2.2 ⟨by decide, by decide, by decide +kernel⟩ rfl rfl rfl ⟨by decide, by decide⟩ ⟨Nat.le_refl _, Nat.le_refl _⟩ hv_X3_hasNode hdg
  | 1, hi, hq => cases hi; cases hq; exact fun p e s m args below meth c D tys tC ad Q pc X hdg => qq_cS X ww_gd (M_X7_isWithin l) kf_X7_isWithin.1 (Or.inl (ww_a2 (i := 50) (w := Cond.methodLink RX7 59 yX7_isWithin) rfl rfl)) kf_X7_isWithin.2.1 kf_X7_isWithin.2.2 ⟨by decide, by decide, by decide +kernel⟩ rfl rfl ⟨by decide, by decide⟩ ⟨Nat.le_refl _, Nat.le_refl _⟩ hdg
  | 2, hi, hq => cases hi; cases hq; exact fun p e s m args below meth c D tys tC ad Q pc X hdg => qq_cV (ci := 3) X ww_gd (M_X3_of l) kf_X3_of.1 (Or.inl (ww_a2 (i := 136) (w := Cond.methodLink RX7 120 yX3_of) rfl rfl)) kf_X3_of.2.1 kf_X3_of.2.2.1 kf_X3_of.2.2.2 ⟨by decide, by decide, by decide +kernel⟩ rfl rfl rfl ⟨by decide, by decide⟩ ⟨Nat.le_refl _, Nat.le_refl _⟩ hv_X3_of hdg
  | 3, hi, hq => cases hi; cases hq; exact fun p e s m args below meth c D tys tC ad Q pc X hdg => qq_cS X ww_gd (M_X3_isUnder l) kf_X3_isUnder.1 (Or.inl (ww_a2 (i := 109) (w := Cond.methodLink RX7 100 yX3_isUnder) rfl rfl)) kf_X3_isUnder.2.1 kf_X3_isUnder.2.2 ⟨by decide, by decide, by decide +kernel⟩ rfl rfl ⟨by decide, by decide⟩ ⟨Nat.le_refl _, Nat.le_refl _⟩ hdg
  | n + 4, hi, hq => simp [cs_X7_is] at hq
abbrev cs_X7_forget : List (Nat × qq_t) := [(2, T_X3_hasNode), (2, T_X7_isWithin), (3, T_X3_hasPart), (2, T_X0_answer), (3, T_X1_hasRows), (1, T_X7_endSolving), (3, T_X1_dropRows)]
def T_X7_forget : qq_t := fun As w P => match As with
  | [.ref 0, .int a0, .int a1] => qq_go ww_sh ww_ro cs_X7_forget (qq_at 78 kd_X7_forget) (some .int) (fun _ => false) P qq_no 43 0 (lv_args 0 [.ref 0, .int a0, .int a1]) [] w
  | _ => False
theorem bd_X7_forget : ∀ As w P K, qq_Sat ww_sh ww_ro cs_X7_forget (qq_at 78 kd_X7_forget) (some .int) P K → T_X7_forget As w P → K 0 (lv_args 0 As) [] w := by
  intro As w P K S h
  unfold T_X7_forget at h
  split at h
  · exact qq_go_all S h
  · exact h.elim
theorem ha_X7_forget : ∀ As w P, T_X7_forget As w P → qq_wd As ≤ 3 := by
  intro As w P h
  unfold T_X7_forget at h
  split at h
  · exact Nat.le_of_ble_eq_true rfl
  · exact h.elim
theorem hv_X7_forget : ∀ As w P, T_X7_forget As w P → ∃ (k : Nat) (r : List Value) (fs : List Nat), As = .ref k :: r ∧ ww_sh[k]? = some (.inr (7, fs)) := by
  intro As w P h
  unfold T_X7_forget at h
  split at h
  · exact ⟨_, _, _, rfl, rfl⟩
  · exact h.elim
set_option maxRecDepth 100000 in
theorem M_X7_forget (l : Launch) : qq_M l ww_T ww_N vwCl ww_sh ww_ro ww_zs yX7_forget cX7_forget 3 (some .int) (ww_rm 3) T_X7_forget := by
  refine qq_mk (host := RX7) (is := ki_X7_forget) (cs := cs_X7_forget) (by decide) ww_k1 wl_X7 ww_so ww_so2 kc_X7_forget kv_X7_forget kg_X7_forget ?_ ha_X7_forget bd_X7_forget
  intro k i q hi hq
  match k, hi, hq with
  | 0, hi, hq => cases hi; cases hq; exact fun p e s m args below meth c D tys tC ad Q pc X hdg => qq_cV (ci := 3) X ww_gd (M_X3_hasNode l) kf_X3_hasNode.1 (Or.inl (ww_a2 (i := 132) (w := Cond.methodLink RX7 117 yX3_hasNode) rfl rfl)) kf_X3_hasNode.2.1 kf_X3_hasNode.2.2.1 kf_X3_hasNode.2.2.2 ⟨by decide, by decide, by decide +kernel⟩ rfl rfl rfl ⟨by decide, by decide⟩ ⟨Nat.le_refl _, Nat.le_refl _⟩ hv_X3_hasNode hdg
  | 1, hi, hq => cases hi; cases hq; exact fun p e s m args below meth c D tys tC ad Q pc X hdg => qq_cS X ww_gd (M_X7_isWithin l) kf_X7_isWithin.1 (Or.inl (ww_a2 (i := 50) (w := Cond.methodLink RX7 59 yX7_isWithin) rfl rfl)) kf_X7_isWithin.2.1 kf_X7_isWithin.2.2 ⟨by decide, by decide, by decide +kernel⟩ rfl rfl ⟨by decide, by decide⟩ ⟨Nat.le_refl _, Nat.le_refl _⟩ hdg
  | 2, hi, hq => cases hi; cases hq; exact fun p e s m args below meth c D tys tC ad Q pc X hdg => qq_cV (ci := 3) X ww_gd (M_X3_hasPart l) kf_X3_hasPart.1 (Or.inl (ww_a2 (i := 200) (w := Cond.methodLink RX7 157 yX3_hasPart) rfl rfl)) kf_X3_hasPart.2.1 kf_X3_hasPart.2.2.1 kf_X3_hasPart.2.2.2 ⟨by decide, by decide, by decide +kernel⟩ rfl rfl rfl ⟨by decide, by decide⟩ ⟨Nat.le_refl _, Nat.le_refl _⟩ hv_X3_hasPart hdg
  | 3, hi, hq => cases hi; cases hq; exact fun p e s m args below meth c D tys tC ad Q pc X hdg => qq_cV (ci := 0) X ww_gd (M_X0_answer l) kf_X0_answer.1 (Or.inl (ww_a2 (i := 120) (w := Cond.methodLink RX7 110 yX0_answer) rfl rfl)) kf_X0_answer.2.1 kf_X0_answer.2.2.1 kf_X0_answer.2.2.2 ⟨by decide, by decide, by decide +kernel⟩ rfl rfl rfl ⟨by decide, by decide⟩ ⟨Nat.le_refl _, Nat.le_refl _⟩ hv_X0_answer hdg
  | 4, hi, hq => cases hi; cases hq; exact fun p e s m args below meth c D tys tC ad Q pc X hdg => qq_cV (ci := 1) X ww_gd (M_X1_hasRows l) kf_X1_hasRows.1 (Or.inl (ww_a2 (i := 220) (w := Cond.methodLink RX7 160 yX1_hasRows) rfl rfl)) kf_X1_hasRows.2.1 kf_X1_hasRows.2.2.1 kf_X1_hasRows.2.2.2 ⟨by decide, by decide, by decide +kernel⟩ rfl rfl rfl ⟨by decide, by decide⟩ ⟨Nat.le_refl _, Nat.le_refl _⟩ hv_X1_hasRows hdg
  | 5, hi, hq => cases hi; cases hq; exact fun p e s m args below meth c D tys tC ad Q pc X hdg => qq_cV (ci := 7) X ww_gd (M_X7_endSolving l) kf_X7_endSolving.1 (Or.inl (ww_a2 (i := 60) (w := Cond.methodLink RX7 77 yX7_endSolving) rfl rfl)) kf_X7_endSolving.2.1 kf_X7_endSolving.2.2.1 kf_X7_endSolving.2.2.2 ⟨by decide, by decide, by decide +kernel⟩ rfl rfl rfl ⟨by decide, by decide⟩ ⟨Nat.le_refl _, Nat.le_refl _⟩ hv_X7_endSolving hdg
  | 6, hi, hq => cases hi; cases hq; exact fun p e s m args below meth c D tys tC ad Q pc X hdg => qq_cV (ci := 1) X ww_gd (M_X1_dropRows l) kf_X1_dropRows.1 (Or.inl (ww_a2 (i := 224) (w := Cond.methodLink RX7 163 yX1_dropRows) rfl rfl)) kf_X1_dropRows.2.1 kf_X1_dropRows.2.2.1 kf_X1_dropRows.2.2.2 ⟨by decide, by decide, by decide +kernel⟩ rfl rfl rfl ⟨by decide, by decide⟩ ⟨Nat.le_refl _, Nat.le_refl _⟩ hv_X1_dropRows hdg
  | n + 7, hi, hq => simp [cs_X7_forget] at hq
abbrev cs_X7_goes : List (Nat × qq_t) := [(3, T_X3_hasState), (2, T_X7_isWithin), (3, T_X3_hasPart), (2, T_X0_answer), (4, T_X1_targets)]
def T_X7_goes : qq_t := fun As w P => match As with
  | [.ref 0, .int a0, .int a1, .int a2] => qq_go ww_sh ww_ro cs_X7_goes (qq_at 54 kd_X7_goes) (some .int) (fun _ => false) P qq_no 31 0 (lv_args 0 [.ref 0, .int a0, .int a1, .int a2]) [] w
  | _ => False
theorem bd_X7_goes : ∀ As w P K, qq_Sat ww_sh ww_ro cs_X7_goes (qq_at 54 kd_X7_goes) (some .int) P K → T_X7_goes As w P → K 0 (lv_args 0 As) [] w := by
  intro As w P K S h
  unfold T_X7_goes at h
  split at h
  · exact qq_go_all S h
  · exact h.elim
theorem ha_X7_goes : ∀ As w P, T_X7_goes As w P → qq_wd As ≤ 4 := by
  intro As w P h
  unfold T_X7_goes at h
  split at h
  · exact Nat.le_of_ble_eq_true rfl
  · exact h.elim
theorem hv_X7_goes : ∀ As w P, T_X7_goes As w P → ∃ (k : Nat) (r : List Value) (fs : List Nat), As = .ref k :: r ∧ ww_sh[k]? = some (.inr (7, fs)) := by
  intro As w P h
  unfold T_X7_goes at h
  split at h
  · exact ⟨_, _, _, rfl, rfl⟩
  · exact h.elim
set_option maxRecDepth 100000 in
theorem M_X7_goes (l : Launch) : qq_M l ww_T ww_N vwCl ww_sh ww_ro ww_zs yX7_goes cX7_goes 4 (some .int) (ww_rm 4) T_X7_goes := by
  refine qq_mk (host := RX7) (is := ki_X7_goes) (cs := cs_X7_goes) (by decide) ww_k1 wl_X7 ww_so ww_so2 kc_X7_goes kv_X7_goes kg_X7_goes ?_ ha_X7_goes bd_X7_goes
  intro k i q hi hq
  match k, hi, hq with
  | 0, hi, hq => cases hi; cases hq; exact fun p e s m args below meth c D tys tC ad Q pc X hdg => qq_cV (ci := 3) X ww_gd (M_X3_hasState l) kf_X3_hasState.1 (Or.inl (ww_a2 (i := 196) (w := Cond.methodLink RX7 170 yX3_hasState) rfl rfl)) kf_X3_hasState.2.1 kf_X3_hasState.2.2.1 kf_X3_hasState.2.2.2 ⟨by decide, by decide, by decide +kernel⟩ rfl rfl rfl ⟨by decide, by decide⟩ ⟨Nat.le_refl _, Nat.le_refl _⟩ hv_X3_hasState hdg
  | 1, hi, hq => cases hi; cases hq; exact fun p e s m args below meth c D tys tC ad Q pc X hdg => qq_cS X ww_gd (M_X7_isWithin l) kf_X7_isWithin.1 (Or.inl (ww_a2 (i := 50) (w := Cond.methodLink RX7 59 yX7_isWithin) rfl rfl)) kf_X7_isWithin.2.1 kf_X7_isWithin.2.2 ⟨by decide, by decide, by decide +kernel⟩ rfl rfl ⟨by decide, by decide⟩ ⟨Nat.le_refl _, Nat.le_refl _⟩ hdg
  | 2, hi, hq => cases hi; cases hq; exact fun p e s m args below meth c D tys tC ad Q pc X hdg => qq_cV (ci := 3) X ww_gd (M_X3_hasPart l) kf_X3_hasPart.1 (Or.inl (ww_a2 (i := 200) (w := Cond.methodLink RX7 157 yX3_hasPart) rfl rfl)) kf_X3_hasPart.2.1 kf_X3_hasPart.2.2.1 kf_X3_hasPart.2.2.2 ⟨by decide, by decide, by decide +kernel⟩ rfl rfl rfl ⟨by decide, by decide⟩ ⟨Nat.le_refl _, Nat.le_refl _⟩ hv_X3_hasPart hdg
  | 3, hi, hq => cases hi; cases hq; exact fun p e s m args below meth c D tys tC ad Q pc X hdg => qq_cV (ci := 0) X ww_gd (M_X0_answer l) kf_X0_answer.1 (Or.inl (ww_a2 (i := 120) (w := Cond.methodLink RX7 110 yX0_answer) rfl rfl)) kf_X0_answer.2.1 kf_X0_answer.2.2.1 kf_X0_answer.2.2.2 ⟨by decide, by decide, by decide +kernel⟩ rfl rfl rfl ⟨by decide, by decide⟩ ⟨Nat.le_refl _, Nat.le_refl _⟩ hv_X0_answer hdg
  | 4, hi, hq => cases hi; cases hq; exact fun p e s m args below meth c D tys tC ad Q pc X hdg => qq_cV (ci := 1) X ww_gd (M_X1_targets l) kf_X1_targets.1 (Or.inl (ww_a3 (i := 2) (w := Cond.methodLink RX7 173 yX1_targets) rfl rfl)) kf_X1_targets.2.1 kf_X1_targets.2.2.1 kf_X1_targets.2.2.2 ⟨by decide, by decide, by decide +kernel⟩ rfl rfl rfl ⟨by decide, by decide⟩ ⟨Nat.le_refl _, Nat.le_refl _⟩ hv_X1_targets hdg
  | n + 5, hi, hq => simp [cs_X7_goes] at hq
abbrev cs_X7_solve : List (Nat × qq_t) := [(2, T_X7_isWithin), (1, T_X3_isWhole), (2, T_X5_goTurns)]
def T_X7_solve : qq_t := fun As w P => match As with
  | [.ref 0, .int a0] => qq_go ww_sh ww_ro cs_X7_solve (qq_at 34 kd_X7_solve) (some .int) (fun _ => false) P qq_no 18 0 (lv_args 0 [.ref 0, .int a0]) [] w
  | _ => False
theorem bd_X7_solve : ∀ As w P K, qq_Sat ww_sh ww_ro cs_X7_solve (qq_at 34 kd_X7_solve) (some .int) P K → T_X7_solve As w P → K 0 (lv_args 0 As) [] w := by
  intro As w P K S h
  unfold T_X7_solve at h
  split at h
  · exact qq_go_all S h
  · exact h.elim
theorem ha_X7_solve : ∀ As w P, T_X7_solve As w P → qq_wd As ≤ 2 := by
  intro As w P h
  unfold T_X7_solve at h
  split at h
  · exact Nat.le_of_ble_eq_true rfl
  · exact h.elim
theorem hv_X7_solve : ∀ As w P, T_X7_solve As w P → ∃ (k : Nat) (r : List Value) (fs : List Nat), As = .ref k :: r ∧ ww_sh[k]? = some (.inr (7, fs)) := by
  intro As w P h
  unfold T_X7_solve at h
  split at h
  · exact ⟨_, _, _, rfl, rfl⟩
  · exact h.elim
set_option maxRecDepth 100000 in
theorem M_X7_solve (l : Launch) : qq_M l ww_T ww_N vwCl ww_sh ww_ro ww_zs yX7_solve cX7_solve 2 (some .int) (ww_rm 6) T_X7_solve := by
  refine qq_mk (host := RX7) (is := ki_X7_solve) (cs := cs_X7_solve) (by decide) ww_k1 wl_X7 ww_so ww_so2 kc_X7_solve kv_X7_solve kg_X7_solve ?_ ha_X7_solve bd_X7_solve
  intro k i q hi hq
  match k, hi, hq with
  | 0, hi, hq => cases hi; cases hq; exact fun p e s m args below meth c D tys tC ad Q pc X hdg => qq_cS X ww_gd (M_X7_isWithin l) kf_X7_isWithin.1 (Or.inl (ww_a2 (i := 50) (w := Cond.methodLink RX7 59 yX7_isWithin) rfl rfl)) kf_X7_isWithin.2.1 kf_X7_isWithin.2.2 ⟨by decide, by decide, by decide +kernel⟩ rfl rfl ⟨by decide, by decide⟩ ⟨Nat.le_refl _, Nat.le_refl _⟩ hdg
  | 1, hi, hq => cases hi; cases hq; exact fun p e s m args below meth c D tys tC ad Q pc X hdg => qq_cV (ci := 3) X ww_gd (M_X3_isWhole l) kf_X3_isWhole.1 (Or.inl (ww_a3 (i := 34) (w := Cond.methodLink RX7 177 yX3_isWhole) rfl rfl)) kf_X3_isWhole.2.1 kf_X3_isWhole.2.2.1 kf_X3_isWhole.2.2.2 ⟨by decide, by decide, by decide +kernel⟩ rfl rfl rfl ⟨by decide, by decide⟩ ⟨Nat.le_refl _, Nat.le_refl _⟩ hv_X3_isWhole hdg
  | 2, hi, hq => cases hi; cases hq; exact fun p e s m args below meth c D tys tC ad Q pc X hdg => qq_cV (ci := 5) X ww_gd (M_X5_goTurns l) kf_X5_goTurns.1 (Or.inl (ww_a3 (i := 42) (w := Cond.methodLink RX7 181 yX5_goTurns) rfl rfl)) kf_X5_goTurns.2.1 kf_X5_goTurns.2.2.1 kf_X5_goTurns.2.2.2 ⟨by decide, by decide, by decide +kernel⟩ rfl rfl rfl ⟨by decide, by decide⟩ ⟨Nat.le_refl _, Nat.le_refl _⟩ hv_X5_goTurns hdg
  | n + 3, hi, hq => simp [cs_X7_solve] at hq
abbrev cs_X7_holds : List (Nat × qq_t) := [(2, T_X3_hasNode), (1, T_X5_isDone), (2, T_X5_holding)]
def T_X7_holds : qq_t := fun As w P => match As with
  | [.ref 0, .int a0] => qq_go ww_sh ww_ro cs_X7_holds (qq_at 37 kd_X7_holds) (some .int) (fun _ => false) P qq_no 19 0 (lv_args 0 [.ref 0, .int a0]) [] w
  | _ => False
theorem bd_X7_holds : ∀ As w P K, qq_Sat ww_sh ww_ro cs_X7_holds (qq_at 37 kd_X7_holds) (some .int) P K → T_X7_holds As w P → K 0 (lv_args 0 As) [] w := by
  intro As w P K S h
  unfold T_X7_holds at h
  split at h
  · exact qq_go_all S h
  · exact h.elim
theorem ha_X7_holds : ∀ As w P, T_X7_holds As w P → qq_wd As ≤ 2 := by
  intro As w P h
  unfold T_X7_holds at h
  split at h
  · exact Nat.le_of_ble_eq_true rfl
  · exact h.elim
theorem hv_X7_holds : ∀ As w P, T_X7_holds As w P → ∃ (k : Nat) (r : List Value) (fs : List Nat), As = .ref k :: r ∧ ww_sh[k]? = some (.inr (7, fs)) := by
  intro As w P h
  unfold T_X7_holds at h
  split at h
  · exact ⟨_, _, _, rfl, rfl⟩
  · exact h.elim
set_option maxRecDepth 100000 in
theorem M_X7_holds (l : Launch) : qq_M l ww_T ww_N vwCl ww_sh ww_ro ww_zs yX7_holds cX7_holds 2 (some .int) (ww_rm 2) T_X7_holds := by
  refine qq_mk (host := RX7) (is := ki_X7_holds) (cs := cs_X7_holds) (by decide) ww_k1 wl_X7 ww_so ww_so2 kc_X7_holds kv_X7_holds kg_X7_holds ?_ ha_X7_holds bd_X7_holds
  intro k i q hi hq
  match k, hi, hq with
  | 0, hi, hq => cases hi; cases hq; exact fun p e s m args below meth c D tys tC ad Q pc X hdg => qq_cV (ci := 3) X ww_gd (M_X3_hasNode l) kf_X3_hasNode.1 (Or.inl (ww_a2 (i := 132) (w := Cond.methodLink RX7 117 yX3_hasNode) rfl rfl)) kf_X3_hasNode.2.1 kf_X3_hasNode.2.2.1 kf_X3_hasNode.2.2.2 ⟨by decide, by decide, by decide +kernel⟩ rfl rfl rfl ⟨by decide, by decide⟩ ⟨Nat.le_refl _, Nat.le_refl _⟩ hv_X3_hasNode hdg
  | 1, hi, hq => cases hi; cases hq; exact fun p e s m args below meth c D tys tC ad Q pc X hdg => qq_cV (ci := 5) X ww_gd (M_X5_isDone l) kf_X5_isDone.1 (Or.inl (ww_a3 (i := 120) (w := Cond.methodLink RX7 184 yX5_isDone) rfl rfl)) kf_X5_isDone.2.1 kf_X5_isDone.2.2.1 kf_X5_isDone.2.2.2 ⟨by decide, by decide, by decide +kernel⟩ rfl rfl rfl ⟨by decide, by decide⟩ ⟨Nat.le_refl _, Nat.le_refl _⟩ hv_X5_isDone hdg
  | 2, hi, hq => cases hi; cases hq; exact fun p e s m args below meth c D tys tC ad Q pc X hdg => qq_cV (ci := 5) X ww_gd (M_X5_holding l) kf_X5_holding.1 (Or.inl (ww_a3 (i := 128) (w := Cond.methodLink RX7 187 yX5_holding) rfl rfl)) kf_X5_holding.2.1 kf_X5_holding.2.2.1 kf_X5_holding.2.2.2 ⟨by decide, by decide, by decide +kernel⟩ rfl rfl rfl ⟨by decide, by decide⟩ ⟨Nat.le_refl _, Nat.le_refl _⟩ hv_X5_holding hdg
  | n + 3, hi, hq => simp [cs_X7_holds] at hq
abbrev cs_X7_edges : List (Nat × qq_t) := [(1, T_X5_isDone), (1, T_X5_countSummaries)]
def T_X7_edges : qq_t := fun As w P => match As with
  | [.ref 0, .int a0] => qq_go ww_sh ww_ro cs_X7_edges (qq_at 35 kd_X7_edges) (some .int) (fun _ => false) P qq_no 17 0 (lv_args 0 [.ref 0, .int a0]) [] w
  | _ => False
theorem bd_X7_edges : ∀ As w P K, qq_Sat ww_sh ww_ro cs_X7_edges (qq_at 35 kd_X7_edges) (some .int) P K → T_X7_edges As w P → K 0 (lv_args 0 As) [] w := by
  intro As w P K S h
  unfold T_X7_edges at h
  split at h
  · exact qq_go_all S h
  · exact h.elim
theorem ha_X7_edges : ∀ As w P, T_X7_edges As w P → qq_wd As ≤ 2 := by
  intro As w P h
  unfold T_X7_edges at h
  split at h
  · exact Nat.le_of_ble_eq_true rfl
  · exact h.elim
theorem hv_X7_edges : ∀ As w P, T_X7_edges As w P → ∃ (k : Nat) (r : List Value) (fs : List Nat), As = .ref k :: r ∧ ww_sh[k]? = some (.inr (7, fs)) := by
  intro As w P h
  unfold T_X7_edges at h
  split at h
  · exact ⟨_, _, _, rfl, rfl⟩
  · exact h.elim
set_option maxRecDepth 100000 in
theorem M_X7_edges (l : Launch) : qq_M l ww_T ww_N vwCl ww_sh ww_ro ww_zs yX7_edges cX7_edges 2 (some .int) (ww_rm 4) T_X7_edges := by
  refine qq_mk (host := RX7) (is := ki_X7_edges) (cs := cs_X7_edges) (by decide) ww_k1 wl_X7 ww_so ww_so2 kc_X7_edges kv_X7_edges kg_X7_edges ?_ ha_X7_edges bd_X7_edges
  intro k i q hi hq
  match k, hi, hq with
  | 0, hi, hq => cases hi; cases hq; exact fun p e s m args below meth c D tys tC ad Q pc X hdg => qq_cV (ci := 5) X ww_gd (M_X5_isDone l) kf_X5_isDone.1 (Or.inl (ww_a3 (i := 120) (w := Cond.methodLink RX7 184 yX5_isDone) rfl rfl)) kf_X5_isDone.2.1 kf_X5_isDone.2.2.1 kf_X5_isDone.2.2.2 ⟨by decide, by decide, by decide +kernel⟩ rfl rfl rfl ⟨by decide, by decide⟩ ⟨Nat.le_refl _, Nat.le_refl _⟩ hv_X5_isDone hdg
  | 1, hi, hq => cases hi; cases hq; exact fun p e s m args below meth c D tys tC ad Q pc X hdg => qq_cV (ci := 5) X ww_gd (M_X5_countSummaries l) kf_X5_countSummaries.1 (Or.inl (ww_a3 (i := 136) (w := Cond.methodLink RX7 190 yX5_countSummaries) rfl rfl)) kf_X5_countSummaries.2.1 kf_X5_countSummaries.2.2.1 kf_X5_countSummaries.2.2.2 ⟨by decide, by decide, by decide +kernel⟩ rfl rfl rfl ⟨by decide, by decide⟩ ⟨Nat.le_refl _, Nat.le_refl _⟩ hv_X5_countSummaries hdg
  | n + 2, hi, hq => simp [cs_X7_edges] at hq
abbrev cs_X7_summary : List (Nat × qq_t) := [(3, T_X3_hasState), (2, T_X3_isCall), (2, T_X0_answer), (1, T_X5_isDone), (3, T_X5_summed)]
def T_X7_summary : qq_t := fun As w P => match As with
  | [.ref 0, .int a0, .int a1] => qq_go ww_sh ww_ro cs_X7_summary (qq_at 59 kd_X7_summary) (some .int) (fun _ => false) P qq_no 31 0 (lv_args 0 [.ref 0, .int a0, .int a1]) [] w
  | _ => False
theorem bd_X7_summary : ∀ As w P K, qq_Sat ww_sh ww_ro cs_X7_summary (qq_at 59 kd_X7_summary) (some .int) P K → T_X7_summary As w P → K 0 (lv_args 0 As) [] w := by
  intro As w P K S h
  unfold T_X7_summary at h
  split at h
  · exact qq_go_all S h
  · exact h.elim
theorem ha_X7_summary : ∀ As w P, T_X7_summary As w P → qq_wd As ≤ 3 := by
  intro As w P h
  unfold T_X7_summary at h
  split at h
  · exact Nat.le_of_ble_eq_true rfl
  · exact h.elim
theorem hv_X7_summary : ∀ As w P, T_X7_summary As w P → ∃ (k : Nat) (r : List Value) (fs : List Nat), As = .ref k :: r ∧ ww_sh[k]? = some (.inr (7, fs)) := by
  intro As w P h
  unfold T_X7_summary at h
  split at h
  · exact ⟨_, _, _, rfl, rfl⟩
  · exact h.elim
set_option maxRecDepth 100000 in
theorem M_X7_summary (l : Launch) : qq_M l ww_T ww_N vwCl ww_sh ww_ro ww_zs yX7_summary cX7_summary 3 (some .int) (ww_rm 3) T_X7_summary := by
  refine qq_mk (host := RX7) (is := ki_X7_summary) (cs := cs_X7_summary) (by decide) ww_k1 wl_X7 ww_so ww_so2 kc_X7_summary kv_X7_summary kg_X7_summary ?_ ha_X7_summary bd_X7_summary
  intro k i q hi hq
  match k, hi, hq with
  | 0, hi, hq => cases hi; cases hq; exact fun p e s m args below meth c D tys tC ad Q pc X hdg => qq_cV (ci := 3) X ww_gd (M_X3_hasState l) kf_X3_hasState.1 (Or.inl (ww_a2 (i := 196) (w := Cond.methodLink RX7 170 yX3_hasState) rfl rfl)) kf_X3_hasState.2.1 kf_X3_hasState.2.2.1 kf_X3_hasState.2.2.2 ⟨by decide, by decide, by decide +kernel⟩ rfl rfl rfl ⟨by decide, by decide⟩ ⟨Nat.le_refl _, Nat.le_refl _⟩ hv_X3_hasState hdg
  | 1, hi, hq => cases hi; cases hq; exact fun p e s m args below meth c D tys tC ad Q pc X hdg => qq_cV (ci := 3) X ww_gd (M_X3_isCall l) kf_X3_isCall.1 (Or.inl (ww_a2 (i := 140) (w := Cond.methodLink RX7 123 yX3_isCall) rfl rfl)) kf_X3_isCall.2.1 kf_X3_isCall.2.2.1 kf_X3_isCall.2.2.2 ⟨by decide, by decide, by decide +kernel⟩ rfl rfl rfl ⟨by decide, by decide⟩ ⟨Nat.le_refl _, Nat.le_refl _⟩ hv_X3_isCall hdg
  | 2, hi, hq => cases hi; cases hq; exact fun p e s m args below meth c D tys tC ad Q pc X hdg => qq_cV (ci := 0) X ww_gd (M_X0_answer l) kf_X0_answer.1 (Or.inl (ww_a2 (i := 120) (w := Cond.methodLink RX7 110 yX0_answer) rfl rfl)) kf_X0_answer.2.1 kf_X0_answer.2.2.1 kf_X0_answer.2.2.2 ⟨by decide, by decide, by decide +kernel⟩ rfl rfl rfl ⟨by decide, by decide⟩ ⟨Nat.le_refl _, Nat.le_refl _⟩ hv_X0_answer hdg
  | 3, hi, hq => cases hi; cases hq; exact fun p e s m args below meth c D tys tC ad Q pc X hdg => qq_cV (ci := 5) X ww_gd (M_X5_isDone l) kf_X5_isDone.1 (Or.inl (ww_a3 (i := 120) (w := Cond.methodLink RX7 184 yX5_isDone) rfl rfl)) kf_X5_isDone.2.1 kf_X5_isDone.2.2.1 kf_X5_isDone.2.2.2 ⟨by decide, by decide, by decide +kernel⟩ rfl rfl rfl ⟨by decide, by decide⟩ ⟨Nat.le_refl _, Nat.le_refl _⟩ hv_X5_isDone hdg
  | 4, hi, hq => cases hi; cases hq; exact fun p e s m args below meth c D tys tC ad Q pc X hdg => qq_cV (ci := 5) X ww_gd (M_X5_summed l) kf_X5_summed.1 (Or.inl (ww_a3 (i := 160) (w := Cond.methodLink RX7 200 yX5_summed) rfl rfl)) kf_X5_summed.2.1 kf_X5_summed.2.2.1 kf_X5_summed.2.2.2 ⟨by decide, by decide, by decide +kernel⟩ rfl rfl rfl ⟨by decide, by decide⟩ ⟨Nat.le_refl _, Nat.le_refl _⟩ hv_X5_summed hdg
  | n + 5, hi, hq => simp [cs_X7_summary] at hq
abbrev cs_X7_share : List (Nat × qq_t) := [(2, T_X7_isWithin), (1, T_X5_isDone), (2, T_X5_countStates), (2, T_X0_answer)]
def T_X7_share : qq_t := fun As w P => match As with
  | [.ref 0, .int a0] => qq_go ww_sh ww_ro cs_X7_share (qq_at 71 kd_X7_share) (some .int) (fun _ => false) P qq_no 40 0 (lv_args 0 [.ref 0, .int a0]) [] w
  | _ => False
theorem bd_X7_share : ∀ As w P K, qq_Sat ww_sh ww_ro cs_X7_share (qq_at 71 kd_X7_share) (some .int) P K → T_X7_share As w P → K 0 (lv_args 0 As) [] w := by
  intro As w P K S h
  unfold T_X7_share at h
  split at h
  · exact qq_go_all S h
  · exact h.elim
theorem ha_X7_share : ∀ As w P, T_X7_share As w P → qq_wd As ≤ 4 := by
  intro As w P h
  unfold T_X7_share at h
  split at h
  · exact Nat.le_of_ble_eq_true rfl
  · exact h.elim
theorem hv_X7_share : ∀ As w P, T_X7_share As w P → ∃ (k : Nat) (r : List Value) (fs : List Nat), As = .ref k :: r ∧ ww_sh[k]? = some (.inr (7, fs)) := by
  intro As w P h
  unfold T_X7_share at h
  split at h
  · exact ⟨_, _, _, rfl, rfl⟩
  · exact h.elim
set_option maxRecDepth 100000 in
theorem M_X7_share (l : Launch) : qq_M l ww_T ww_N vwCl ww_sh ww_ro ww_zs yX7_share cX7_share 4 (some .int) (ww_rm 3) T_X7_share := by
  refine qq_mk (host := RX7) (is := ki_X7_share) (cs := cs_X7_share) (by decide) ww_k1 wl_X7 ww_so ww_so2 kc_X7_share kv_X7_share kg_X7_share ?_ ha_X7_share bd_X7_share
  intro k i q hi hq
  match k, hi, hq with
  | 0, hi, hq => cases hi; cases hq; exact fun p e s m args below meth c D tys tC ad Q pc X hdg => qq_cS X ww_gd (M_X7_isWithin l) kf_X7_isWithin.1 (Or.inl (ww_a2 (i := 50) (w := Cond.methodLink RX7 59 yX7_isWithin) rfl rfl)) kf_X7_isWithin.2.1 kf_X7_isWithin.2.2 ⟨by decide, by decide, by decide +kernel⟩ rfl rfl ⟨by decide, by decide⟩ ⟨Nat.le_refl _, Nat.le_refl _⟩ hdg
  | 1, hi, hq => cases hi; cases hq; exact fun p e s m args below meth c D tys tC ad Q pc X hdg => qq_cV (ci := 5) X ww_gd (M_X5_isDone l) kf_X5_isDone.1 (Or.inl (ww_a3 (i := 120) (w := Cond.methodLink RX7 184 yX5_isDone) rfl rfl)) kf_X5_isDone.2.1 kf_X5_isDone.2.2.1 kf_X5_isDone.2.2.2 ⟨by decide, by decide, by decide +kernel⟩ rfl rfl rfl ⟨by decide, by decide⟩ ⟨Nat.le_refl _, Nat.le_refl _⟩ hv_X5_isDone hdg
  | 2, hi, hq => cases hi; cases hq; exact fun p e s m args below meth c D tys tC ad Q pc X hdg => qq_cV (ci := 5) X ww_gd (M_X5_countStates l) kf_X5_countStates.1 (Or.inl (ww_a3 (i := 165) (w := Cond.methodLink RX7 203 yX5_countStates) rfl rfl)) kf_X5_countStates.2.1 kf_X5_countStates.2.2.1 kf_X5_countStates.2.2.2 ⟨by decide, by decide, by decide +kernel⟩ rfl rfl rfl ⟨by decide, by decide⟩ ⟨Nat.le_refl _, Nat.le_refl _⟩ hv_X5_countStates hdg
  | 3, hi, hq => cases hi; cases hq; exact fun p e s m args below meth c D tys tC ad Q pc X hdg => qq_cV (ci := 0) X ww_gd (M_X0_answer l) kf_X0_answer.1 (Or.inl (ww_a2 (i := 120) (w := Cond.methodLink RX7 110 yX0_answer) rfl rfl)) kf_X0_answer.2.1 kf_X0_answer.2.2.1 kf_X0_answer.2.2.2 ⟨by decide, by decide, by decide +kernel⟩ rfl rfl rfl ⟨by decide, by decide⟩ ⟨Nat.le_refl _, Nat.le_refl _⟩ hv_X0_answer hdg
  | n + 4, hi, hq => simp [cs_X7_share] at hq
abbrev cs_X7_reportedAt : List (Nat × qq_t) := [(2, T_X1_watched), (2, T_X5_holding)]
def T_X7_reportedAt : qq_t := fun As w P => match As with
  | [.ref 0, .int a0] => qq_go ww_sh ww_ro cs_X7_reportedAt (qq_at 18 kd_X7_reportedAt) (some .int) (fun _ => false) P qq_no 11 0 (lv_args 0 [.ref 0, .int a0]) [] w
  | _ => False
theorem bd_X7_reportedAt : ∀ As w P K, qq_Sat ww_sh ww_ro cs_X7_reportedAt (qq_at 18 kd_X7_reportedAt) (some .int) P K → T_X7_reportedAt As w P → K 0 (lv_args 0 As) [] w := by
  intro As w P K S h
  unfold T_X7_reportedAt at h
  split at h
  · exact qq_go_all S h
  · exact h.elim
theorem ha_X7_reportedAt : ∀ As w P, T_X7_reportedAt As w P → qq_wd As ≤ 2 := by
  intro As w P h
  unfold T_X7_reportedAt at h
  split at h
  · exact Nat.le_of_ble_eq_true rfl
  · exact h.elim
theorem hv_X7_reportedAt : ∀ As w P, T_X7_reportedAt As w P → ∃ (k : Nat) (r : List Value) (fs : List Nat), As = .ref k :: r ∧ ww_sh[k]? = some (.inr (7, fs)) := by
  intro As w P h
  unfold T_X7_reportedAt at h
  split at h
  · exact ⟨_, _, _, rfl, rfl⟩
  · exact h.elim
set_option maxRecDepth 100000 in
theorem M_X7_reportedAt (l : Launch) : qq_M l ww_T ww_N vwCl ww_sh ww_ro ww_zs yX7_reportedAt cX7_reportedAt 2 (some .int) (ww_rm 4) T_X7_reportedAt := by
  refine qq_mk (host := RX7) (is := ki_X7_reportedAt) (cs := cs_X7_reportedAt) (by decide) ww_k1 wl_X7 ww_so ww_so2 kc_X7_reportedAt kv_X7_reportedAt kg_X7_reportedAt ?_ ha_X7_reportedAt bd_X7_reportedAt
  intro k i q hi hq
  match k, hi, hq with
  | 0, hi, hq => cases hi; cases hq; exact fun p e s m args below meth c D tys tC ad Q pc X hdg => qq_cV (ci := 1) X ww_gd (M_X1_watched l) kf_X1_watched.1 (Or.inl (ww_a4 (i := 128) (w := Cond.methodLink RX7 284 yX1_watched) rfl rfl)) kf_X1_watched.2.1 kf_X1_watched.2.2.1 kf_X1_watched.2.2.2 ⟨by decide, by decide, by decide +kernel⟩ rfl rfl rfl ⟨by decide, by decide⟩ ⟨Nat.le_refl _, Nat.le_refl _⟩ hv_X1_watched hdg
  | 1, hi, hq => cases hi; cases hq; exact fun p e s m args below meth c D tys tC ad Q pc X hdg => qq_cV (ci := 5) X ww_gd (M_X5_holding l) kf_X5_holding.1 (Or.inl (ww_a3 (i := 128) (w := Cond.methodLink RX7 187 yX5_holding) rfl rfl)) kf_X5_holding.2.1 kf_X5_holding.2.2.1 kf_X5_holding.2.2.2 ⟨by decide, by decide, by decide +kernel⟩ rfl rfl rfl ⟨by decide, by decide⟩ ⟨Nat.le_refl _, Nat.le_refl _⟩ hv_X5_holding hdg
  | n + 2, hi, hq => simp [cs_X7_reportedAt] at hq
abbrev cs_X8_told : List (Nat × qq_t) := [(2, T_X8_isNode), (3, T_X8_in), (3, T_X8_tells)]
def T_X8_told : qq_t := fun As w P => match As with
  | [.ref 8, .int a0, .int a1] => qq_go ww_sh ww_ro cs_X8_told (qq_at 29 kd_X8_told) (some .int) (fun _ => false) P qq_no 17 0 (lv_args 0 [.ref 8, .int a0, .int a1]) [] w
  | _ => False
theorem bd_X8_told : ∀ As w P K, qq_Sat ww_sh ww_ro cs_X8_told (qq_at 29 kd_X8_told) (some .int) P K → T_X8_told As w P → K 0 (lv_args 0 As) [] w := by
  intro As w P K S h
  unfold T_X8_told at h
  split at h
  · exact qq_go_all S h
  · exact h.elim
theorem ha_X8_told : ∀ As w P, T_X8_told As w P → qq_wd As ≤ 3 := by
  intro As w P h
  unfold T_X8_told at h
  split at h
  · exact Nat.le_of_ble_eq_true rfl
  · exact h.elim
theorem hv_X8_told : ∀ As w P, T_X8_told As w P → ∃ (k : Nat) (r : List Value) (fs : List Nat), As = .ref k :: r ∧ ww_sh[k]? = some (.inr (8, fs)) := by
  intro As w P h
  unfold T_X8_told at h
  split at h
  · exact ⟨_, _, _, rfl, rfl⟩
  · exact h.elim
set_option maxRecDepth 100000 in
theorem M_X8_told (l : Launch) : qq_M l ww_T ww_N vwCl ww_sh ww_ro ww_zs yX8_told cX8_told 3 (some .int) (ww_rm 2) T_X8_told := by
  refine qq_mk (host := RX7) (is := ki_X8_told) (cs := cs_X8_told) (by decide) ww_k1 wl_X8 ww_so ww_so2 kc_X8_told kv_X8_told kg_X8_told ?_ ha_X8_told bd_X8_told
  intro k i q hi hq
  match k, hi, hq with
  | 0, hi, hq => cases hi; cases hq; exact fun p e s m args below meth c D tys tC ad Q pc X hdg => qq_cV (ci := 8) X ww_gd (M_X8_isNode l) kf_X8_isNode.1 (Or.inl (ww_a5 (i := 125) (w := Cond.methodLink RX8 144 yX8_isNode) rfl rfl)) kf_X8_isNode.2.1 kf_X8_isNode.2.2.1 kf_X8_isNode.2.2.2 ⟨by decide, by decide, by decide +kernel⟩ rfl rfl rfl ⟨by decide, by decide⟩ ⟨Nat.le_refl _, Nat.le_refl _⟩ hv_X8_isNode hdg
  | 1, hi, hq => cases hi; cases hq; exact fun p e s m args below meth c D tys tC ad Q pc X hdg => qq_cS X ww_gd (M_X8_in l) kf_X8_in.1 (Or.inl (ww_a5 (i := 76) (w := Cond.methodLink RX8 105 yX8_in) rfl rfl)) kf_X8_in.2.1 kf_X8_in.2.2 ⟨by decide, by decide, by decide +kernel⟩ rfl rfl ⟨by decide, by decide⟩ ⟨Nat.le_refl _, Nat.le_refl _⟩ hdg
  | 2, hi, hq => cases hi; cases hq; exact fun p e s m args below meth c D tys tC ad Q pc X hdg => qq_cV (ci := 8) X ww_gd (M_X8_tells l) kf_X8_tells.1 (Or.inl (ww_a5 (i := 144) (w := Cond.methodLink RX8 153 yX8_tells) rfl rfl)) kf_X8_tells.2.1 kf_X8_tells.2.2.1 kf_X8_tells.2.2.2 ⟨by decide, by decide, by decide +kernel⟩ rfl rfl rfl ⟨by decide, by decide⟩ ⟨Nat.le_refl _, Nat.le_refl _⟩ hv_X8_tells hdg
  | n + 3, hi, hq => simp [cs_X8_told] at hq
abbrev cs_X8_goes : List (Nat × qq_t) := [(2, T_X8_isNode), (3, T_X8_in), (2, T_X8_meets), (4, T_X8_flows)]
def T_X8_goes : qq_t := fun As w P => match As with
  | [.ref 8, .int a0, .int a1, .int a2] => qq_go ww_sh ww_ro cs_X8_goes (qq_at 60 kd_X8_goes) (some .int) (fun _ => false) P qq_no 35 0 (lv_args 0 [.ref 8, .int a0, .int a1, .int a2]) [] w
  | _ => False
theorem bd_X8_goes : ∀ As w P K, qq_Sat ww_sh ww_ro cs_X8_goes (qq_at 60 kd_X8_goes) (some .int) P K → T_X8_goes As w P → K 0 (lv_args 0 As) [] w := by
  intro As w P K S h
  unfold T_X8_goes at h
  split at h
  · exact qq_go_all S h
  · exact h.elim
theorem ha_X8_goes : ∀ As w P, T_X8_goes As w P → qq_wd As ≤ 4 := by
  intro As w P h
  unfold T_X8_goes at h
  split at h
  · exact Nat.le_of_ble_eq_true rfl
  · exact h.elim
theorem hv_X8_goes : ∀ As w P, T_X8_goes As w P → ∃ (k : Nat) (r : List Value) (fs : List Nat), As = .ref k :: r ∧ ww_sh[k]? = some (.inr (8, fs)) := by
  intro As w P h
  unfold T_X8_goes at h
  split at h
  · exact ⟨_, _, _, rfl, rfl⟩
  · exact h.elim
set_option maxRecDepth 100000 in
theorem M_X8_goes (l : Launch) : qq_M l ww_T ww_N vwCl ww_sh ww_ro ww_zs yX8_goes cX8_goes 4 (some .int) (ww_rm 3) T_X8_goes := by
  refine qq_mk (host := RX7) (is := ki_X8_goes) (cs := cs_X8_goes) (by decide) ww_k1 wl_X8 ww_so ww_so2 kc_X8_goes kv_X8_goes kg_X8_goes ?_ ha_X8_goes bd_X8_goes
  intro k i q hi hq
  match k, hi, hq with
  | 0, hi, hq => cases hi; cases hq; exact fun p e s m args below meth c D tys tC ad Q pc X hdg => qq_cV (ci := 8) X ww_gd (M_X8_isNode l) kf_X8_isNode.1 (Or.inl (ww_a5 (i := 125) (w := Cond.methodLink RX8 144 yX8_isNode) rfl rfl)) kf_X8_isNode.2.1 kf_X8_isNode.2.2.1 kf_X8_isNode.2.2.2 ⟨by decide, by decide, by decide +kernel⟩ rfl rfl rfl ⟨by decide, by decide⟩ ⟨Nat.le_refl _, Nat.le_refl _⟩ hv_X8_isNode hdg
  | 1, hi, hq => cases hi; cases hq; exact fun p e s m args below meth c D tys tC ad Q pc X hdg => qq_cS X ww_gd (M_X8_in l) kf_X8_in.1 (Or.inl (ww_a5 (i := 76) (w := Cond.methodLink RX8 105 yX8_in) rfl rfl)) kf_X8_in.2.1 kf_X8_in.2.2 ⟨by decide, by decide, by decide +kernel⟩ rfl rfl ⟨by decide, by decide⟩ ⟨Nat.le_refl _, Nat.le_refl _⟩ hdg
  | 2, hi, hq => cases hi; cases hq; exact fun p e s m args below meth c D tys tC ad Q pc X hdg => qq_cV (ci := 8) X ww_gd (M_X8_meets l) kf_X8_meets.1 (Or.inl (ww_a5 (i := 117) (w := Cond.methodLink RX8 137 yX8_meets) rfl rfl)) kf_X8_meets.2.1 kf_X8_meets.2.2.1 kf_X8_meets.2.2.2 ⟨by decide, by decide, by decide +kernel⟩ rfl rfl rfl ⟨by decide, by decide⟩ ⟨Nat.le_refl _, Nat.le_refl _⟩ hv_X8_meets hdg
  | 3, hi, hq => cases hi; cases hq; exact fun p e s m args below meth c D tys tC ad Q pc X hdg => qq_cV (ci := 8) X ww_gd (M_X8_flows l) kf_X8_flows.1 (Or.inl (ww_a5 (i := 187) (w := Cond.methodLink RX8 184 yX8_flows) rfl rfl)) kf_X8_flows.2.1 kf_X8_flows.2.2.1 kf_X8_flows.2.2.2 ⟨by decide, by decide, by decide +kernel⟩ rfl rfl rfl ⟨by decide, by decide⟩ ⟨Nat.le_refl _, Nat.le_refl _⟩ hv_X8_flows hdg
  | n + 4, hi, hq => simp [cs_X8_goes] at hq
abbrev cs_X8_holds : List (Nat × qq_t) := [(2, T_X8_isNode), (1, T_X8_isSolved), (2, T_X8_holdingAt)]
def T_X8_holds : qq_t := fun As w P => match As with
  | [.ref 8, .int a0] => qq_go ww_sh ww_ro cs_X8_holds (qq_at 30 kd_X8_holds) (some .int) (fun _ => false) P qq_no 16 0 (lv_args 0 [.ref 8, .int a0]) [] w
  | _ => False
theorem bd_X8_holds : ∀ As w P K, qq_Sat ww_sh ww_ro cs_X8_holds (qq_at 30 kd_X8_holds) (some .int) P K → T_X8_holds As w P → K 0 (lv_args 0 As) [] w := by
  intro As w P K S h
  unfold T_X8_holds at h
  split at h
  · exact qq_go_all S h
  · exact h.elim
theorem ha_X8_holds : ∀ As w P, T_X8_holds As w P → qq_wd As ≤ 2 := by
  intro As w P h
  unfold T_X8_holds at h
  split at h
  · exact Nat.le_of_ble_eq_true rfl
  · exact h.elim
theorem hv_X8_holds : ∀ As w P, T_X8_holds As w P → ∃ (k : Nat) (r : List Value) (fs : List Nat), As = .ref k :: r ∧ ww_sh[k]? = some (.inr (8, fs)) := by
  intro As w P h
  unfold T_X8_holds at h
  split at h
  · exact ⟨_, _, _, rfl, rfl⟩
  · exact h.elim
set_option maxRecDepth 100000 in
theorem M_X8_holds (l : Launch) : qq_M l ww_T ww_N vwCl ww_sh ww_ro ww_zs yX8_holds cX8_holds 2 (some .int) (ww_rm 2) T_X8_holds := by
  refine qq_mk (host := RX7) (is := ki_X8_holds) (cs := cs_X8_holds) (by decide) ww_k1 wl_X8 ww_so ww_so2 kc_X8_holds kv_X8_holds kg_X8_holds ?_ ha_X8_holds bd_X8_holds
  intro k i q hi hq
  match k, hi, hq with
  | 0, hi, hq => cases hi; cases hq; exact fun p e s m args below meth c D tys tC ad Q pc X hdg => qq_cV (ci := 8) X ww_gd (M_X8_isNode l) kf_X8_isNode.1 (Or.inl (ww_a5 (i := 125) (w := Cond.methodLink RX8 144 yX8_isNode) rfl rfl)) kf_X8_isNode.2.1 kf_X8_isNode.2.2.1 kf_X8_isNode.2.2.2 ⟨by decide, by decide, by decide +kernel⟩ rfl rfl rfl ⟨by decide, by decide⟩ ⟨Nat.le_refl _, Nat.le_refl _⟩ hv_X8_isNode hdg
  | 1, hi, hq => cases hi; cases hq; exact fun p e s m args below meth c D tys tC ad Q pc X hdg => qq_cV (ci := 8) X ww_gd (M_X8_isSolved l) kf_X8_isSolved.1 (Or.inl (ww_a6 (i := 22) (w := Cond.methodLink RX8 243 yX8_isSolved) rfl rfl)) kf_X8_isSolved.2.1 kf_X8_isSolved.2.2.1 kf_X8_isSolved.2.2.2 ⟨by decide, by decide, by decide +kernel⟩ rfl rfl rfl ⟨by decide, by decide⟩ ⟨Nat.le_refl _, Nat.le_refl _⟩ hv_X8_isSolved hdg
  | 2, hi, hq => cases hi; cases hq; exact fun p e s m args below meth c D tys tC ad Q pc X hdg => qq_cV (ci := 8) X ww_gd (M_X8_holdingAt l) kf_X8_holdingAt.1 (Or.inl (ww_a6 (i := 30) (w := Cond.methodLink RX8 246 yX8_holdingAt) rfl rfl)) kf_X8_holdingAt.2.1 kf_X8_holdingAt.2.2.1 kf_X8_holdingAt.2.2.2 ⟨by decide, by decide, by decide +kernel⟩ rfl rfl rfl ⟨by decide, by decide⟩ ⟨Nat.le_refl _, Nat.le_refl _⟩ hv_X8_holdingAt hdg
  | n + 3, hi, hq => simp [cs_X8_holds] at hq
abbrev cs_X8_reports : List (Nat × qq_t) := [(1, T_X8_isSolved), (2, T_X8_reportAt)]
def T_X8_reports : qq_t := fun As w P => match As with
  | [.ref 8] => qq_go ww_sh ww_ro cs_X8_reports (qq_at 22 kd_X8_reports) (some .int) (fun _ => false) P qq_no 13 0 (lv_args 0 [.ref 8]) [] w
  | _ => False
theorem bd_X8_reports : ∀ As w P K, qq_Sat ww_sh ww_ro cs_X8_reports (qq_at 22 kd_X8_reports) (some .int) P K → T_X8_reports As w P → K 0 (lv_args 0 As) [] w := by
  intro As w P K S h
  unfold T_X8_reports at h
  split at h
  · exact qq_go_all S h
  · exact h.elim
theorem ha_X8_reports : ∀ As w P, T_X8_reports As w P → qq_wd As ≤ 2 := by
  intro As w P h
  unfold T_X8_reports at h
  split at h
  · exact Nat.le_of_ble_eq_true rfl
  · exact h.elim
theorem hv_X8_reports : ∀ As w P, T_X8_reports As w P → ∃ (k : Nat) (r : List Value) (fs : List Nat), As = .ref k :: r ∧ ww_sh[k]? = some (.inr (8, fs)) := by
  intro As w P h
  unfold T_X8_reports at h
  split at h
  · exact ⟨_, _, _, rfl, rfl⟩
  · exact h.elim
set_option maxRecDepth 100000 in
theorem M_X8_reports (l : Launch) : qq_M l ww_T ww_N vwCl ww_sh ww_ro ww_zs yX8_reports cX8_reports 2 (some .int) (ww_rm 2) T_X8_reports := by
  refine qq_mk (host := RX7) (is := ki_X8_reports) (cs := cs_X8_reports) (by decide) ww_k1 wl_X8 ww_so ww_so2 kc_X8_reports kv_X8_reports kg_X8_reports ?_ ha_X8_reports bd_X8_reports
  intro k i q hi hq
  match k, hi, hq with
  | 0, hi, hq => cases hi; cases hq; exact fun p e s m args below meth c D tys tC ad Q pc X hdg => qq_cV (ci := 8) X ww_gd (M_X8_isSolved l) kf_X8_isSolved.1 (Or.inl (ww_a6 (i := 22) (w := Cond.methodLink RX8 243 yX8_isSolved) rfl rfl)) kf_X8_isSolved.2.1 kf_X8_isSolved.2.2.1 kf_X8_isSolved.2.2.2 ⟨by decide, by decide, by decide +kernel⟩ rfl rfl rfl ⟨by decide, by decide⟩ ⟨Nat.le_refl _, Nat.le_refl _⟩ hv_X8_isSolved hdg
  | 1, hi, hq => cases hi; cases hq; exact fun p e s m args below meth c D tys tC ad Q pc X hdg => qq_cV (ci := 8) X ww_gd (M_X8_reportAt l) kf_X8_reportAt.1 (Or.inl (ww_a6 (i := 120) (w := Cond.methodLink RX8 322 yX8_reportAt) rfl rfl)) kf_X8_reportAt.2.1 kf_X8_reportAt.2.2.1 kf_X8_reportAt.2.2.2 ⟨by decide, by decide, by decide +kernel⟩ rfl rfl rfl ⟨by decide, by decide⟩ ⟨Nat.le_refl _, Nat.le_refl _⟩ hv_X8_reportAt hdg
  | n + 2, hi, hq => simp [cs_X8_reports] at hq
abbrev cs_X8_report : List (Nat × qq_t) := [(3, T_X8_in), (1, T_X8_isSolved), (2, T_X8_reportAt)]
def T_X8_report : qq_t := fun As w P => match As with
  | [.ref 8, .int a0, .int a1] => qq_go ww_sh ww_ro cs_X8_report (qq_at 54 kd_X8_report) (some .int) (fun _ => false) P qq_no 32 0 (lv_args 0 [.ref 8, .int a0, .int a1]) [] w
  | _ => False
theorem bd_X8_report : ∀ As w P K, qq_Sat ww_sh ww_ro cs_X8_report (qq_at 54 kd_X8_report) (some .int) P K → T_X8_report As w P → K 0 (lv_args 0 As) [] w := by
  intro As w P K S h
  unfold T_X8_report at h
  split at h
  · exact qq_go_all S h
  · exact h.elim
theorem ha_X8_report : ∀ As w P, T_X8_report As w P → qq_wd As ≤ 4 := by
  intro As w P h
  unfold T_X8_report at h
  split at h
  · exact Nat.le_of_ble_eq_true rfl
  · exact h.elim
theorem hv_X8_report : ∀ As w P, T_X8_report As w P → ∃ (k : Nat) (r : List Value) (fs : List Nat), As = .ref k :: r ∧ ww_sh[k]? = some (.inr (8, fs)) := by
  intro As w P h
  unfold T_X8_report at h
  split at h
  · exact ⟨_, _, _, rfl, rfl⟩
  · exact h.elim
set_option maxRecDepth 100000 in
theorem M_X8_report (l : Launch) : qq_M l ww_T ww_N vwCl ww_sh ww_ro ww_zs yX8_report cX8_report 4 (some .int) (ww_rm 2) T_X8_report := by
  refine qq_mk (host := RX7) (is := ki_X8_report) (cs := cs_X8_report) (by decide) ww_k1 wl_X8 ww_so ww_so2 kc_X8_report kv_X8_report kg_X8_report ?_ ha_X8_report bd_X8_report
  intro k i q hi hq
  match k, hi, hq with
  | 0, hi, hq => cases hi; cases hq; exact fun p e s m args below meth c D tys tC ad Q pc X hdg => qq_cS X ww_gd (M_X8_in l) kf_X8_in.1 (Or.inl (ww_a5 (i := 76) (w := Cond.methodLink RX8 105 yX8_in) rfl rfl)) kf_X8_in.2.1 kf_X8_in.2.2 ⟨by decide, by decide, by decide +kernel⟩ rfl rfl ⟨by decide, by decide⟩ ⟨Nat.le_refl _, Nat.le_refl _⟩ hdg
  | 1, hi, hq => cases hi; cases hq; exact fun p e s m args below meth c D tys tC ad Q pc X hdg => qq_cV (ci := 8) X ww_gd (M_X8_isSolved l) kf_X8_isSolved.1 (Or.inl (ww_a6 (i := 22) (w := Cond.methodLink RX8 243 yX8_isSolved) rfl rfl)) kf_X8_isSolved.2.1 kf_X8_isSolved.2.2.1 kf_X8_isSolved.2.2.2 ⟨by decide, by decide, by decide +kernel⟩ rfl rfl rfl ⟨by decide, by decide⟩ ⟨Nat.le_refl _, Nat.le_refl _⟩ hv_X8_isSolved hdg
  | 2, hi, hq => cases hi; cases hq; exact fun p e s m args below meth c D tys tC ad Q pc X hdg => qq_cV (ci := 8) X ww_gd (M_X8_reportAt l) kf_X8_reportAt.1 (Or.inl (ww_a6 (i := 120) (w := Cond.methodLink RX8 322 yX8_reportAt) rfl rfl)) kf_X8_reportAt.2.1 kf_X8_reportAt.2.2.1 kf_X8_reportAt.2.2.2 ⟨by decide, by decide, by decide +kernel⟩ rfl rfl rfl ⟨by decide, by decide⟩ ⟨Nat.le_refl _, Nat.le_refl _⟩ hv_X8_reportAt hdg
  | n + 3, hi, hq => simp [cs_X8_report] at hq
