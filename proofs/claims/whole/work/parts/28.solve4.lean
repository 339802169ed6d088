/-- what one turn finds -/
def cStep (w : qq_w) (n d e j g : Nat) : Prop := (w.1 13 (10 * n + 1) = 9 ∧ cFromCall w n d e j g) ∨ (w.1 13 (10 * n + 1) = 1 ∧ cFromLeave w (w.1 13 (10 * n + 0)) d e (qn (w.1 1 10)) j g) ∨ (¬ w.1 13 (10 * n + 1) = 9 ∧ ¬ w.1 13 (10 * n + 1) = 1 ∧ ∃ t, lb (w.2 17 n) t = true ∧ j = 13 * t + d ∧ bt (w.1 19 (39 * n + 13 * 0 + e)) g = true)
/-- the program is such that turns can be gone -/
def cSW (w : qq_w) : Prop := vp_in (w.1 1 10) 65 ∧ (∀ j, fs (w.1 19 j)) ∧ ∀ c, c < qn (w.1 1 10) → w.1 13 (10 * c + 1) = 9 → cCall w c ∧ ∃ r, r < 64 ∧ w.1 13 (10 * c + 7) = nI r ∧ w.1 13 (10 * r + 1) = 10
theorem lcmp0 {x y : Int64} : lg_cmp x y = 0 ↔ x = y := by
  unfold lg_cmp
  constructor
  · intro h
    split at h
    · exact absurd h (by decide)
    · split at h
      · assumption
      · exact absurd h (by decide)
  · intro h
    subst h
    rw [if_neg (by rw [GT.gt, Int64.lt_iff_toInt_lt]; omega), if_pos rfl]
abbrev cs_X5_goOn : List (Nat × qq_t) := [(3, T_X3_of), (4, T_X5_goOnFromCall), (4, T_X5_goOnFromLeave), (4, T_X5_step), (1, T_X7_lowest), (4, T_X5_add)]
def T_X5_goOn : qq_t := fun As w P => match As with
  | [.ref 3, .int a, .int b, .int x] => ((vp_in a 64 ∧ qn a < qn (w.1 1 10) ∧ vp_in b 13 ∧ vp_in x 13 ∧ cSW w) ∧ ∃ f, cW w f) ∧ ∀ w', sAdd w w' (cStep w (qn a) (qn b) (qn x)) → P none w'
  | _ => False
theorem lp_goOn {P : Option Value → qq_w → Prop} {K : Nat → qq_L → List Value → qq_w → Prop} (S : qq_Sat ww_sh ww_ro cs_X5_goOn (qq_at 117 kd_X5_goOn) none P K) {w : qq_w} {b x5 : Int32} {L : Int64} {d : Nat} (hb : b = nI d) (hd : d < 13) (h5 : fs x5) (hf : ∃ f, cW w f)
    (hq : ∀ w', sAdd w w' (fun j g => ∃ t, lb L t = true ∧ j = 13 * t + d ∧ bt x5 g = true) → P none w') :
    ∀ m i, i + m = 64 → ∀ (x6 : Int64) (x8 : Int32) (w1 : qq_w), x8 = nI i → (∀ t, lb x6 t = true → lb L t = true) → (∀ t, t < i → lb x6 t = false) → sAdd w w1 (fun j g => ∃ t, lb L t = true ∧ ¬ lb x6 t = true ∧ j = 13 * t + d ∧ bt x5 g = true) → K 75 [(0, .ref 3), (2, .int b), (5, .int x5), (6, .long x6), (8, .int x8)] [] w1 := by
  have fin : ∀ (x6 : Int64) (w1 : qq_w), (∀ t, lb x6 t = false) → sAdd w w1 (fun j g => ∃ t, lb L t = true ∧ ¬ lb x6 t = true ∧ j = 13 * t + d ∧ bt x5 g = true) → P none w1 := by
    intro x6 w1 h0 h1
    refine hq w1 ⟨h1.1, fun j g => ?_⟩
    rw [h1.2 j g]
    constructor
    · rintro (z | ⟨t, z1, z2, z3⟩)
      · exact Or.inl z
      · exact Or.inr ⟨t, z1, z3⟩
    · rintro (z | ⟨t, z1, z3⟩)
      · exact Or.inl z
      · exact Or.inr ⟨t, z1, by rw [h0 t]; decide, z3⟩
  intro m
  induction m with
  | zero =>
    intro i hi x6 x8 w1 e8 hs hl h1
    refine qq_go_ok S (fun pc => Nat.beq pc 75) 60 ?_
    conv => whnf
    refine br_t (i_ge 64 e8 (by omega) (by omega)) ?_
    conv => whnf
    refine fin x6 w1 (fun t => ?_) h1
    rcases Nat.lt_or_ge t 64 with z | z
    · exact hl t (by omega)
    · exact lb_big z
  | succ m ih =>
    intro i hi x6 x8 w1 e8 hs hl h1
    refine qq_go_ok S (fun pc => Nat.beq pc 75) 80 ?_
    conv => whnf
    refine br_f (i_nge 64 e8 (by omega) (by omega)) ?_
    conv => whnf
    refine ⟨fun h => ?_, fun h => ?_⟩
    · conv => whnf
      have h := lcmp0.mp h
      exact fin x6 w1 (fun t => by rw [h]; exact lb_0 t) h1
    have hne : ¬ x6 = 0 := fun z => h (lcmp0.mpr z)
    conv => whnf
    refine ⟨hne, fun k hk => ?_⟩
    obtain ⟨hk64, hlow⟩ := hk
    conv => whnf
    refine ⟨⟨⟨vp_in_nI hk64 (by decide), i_in 13 hb hd (by decide), h5⟩, sExt_W h1.1 hf⟩, fun w2 h2 => ?_⟩
    conv => whnf
    have hki : i ≤ k := by
      rcases Nat.lt_or_ge k i with z | z
      · have := hl k z
        rw [hlow.1] at this
        cases this
      · exact z
    refine qq_wk S (ih (i + 1) (by omega) (x6 &&& (x6 - 1)) _ w2 (i_s e8) (fun t ht => hs t ((lb_clear hlow t).mp ht).1) (fun t ht => ?_) ⟨sExt_tr h1.1 h2.1, fun j g => ?_⟩) ⟨rfl, rfl, rfl, rfl, rfl, trivial⟩
    · cases q : lb (x6 &&& (x6 - 1)) t with
      | false => rfl
      | true =>
        have := (lb_clear hlow t).mp q
        rcases Nat.lt_or_ge t k with z | z
        · rw [hlow.2 t z] at this
          exact absurd this.1 (by decide)
        · omega
    · have z := h2.2 j g
      dsimp only at z
      rw [qn_nI (by omega), hb, qn_nI (by omega)] at z
      rw [z, h1.2 j g]
      constructor
      · rintro ((z | ⟨t, z1, z2, z3⟩) | ⟨z1, z2⟩)
        · exact Or.inl z
        · exact Or.inr ⟨t, z1, fun q => z2 ((lb_clear hlow t).mp q).1, z3⟩
        · exact Or.inr ⟨k, hs k hlow.1, fun q => ((lb_clear hlow k).mp q).2 rfl, z1, z2⟩
      · rintro (z | ⟨t, z1, z2, z3, z4⟩)
        · exact Or.inl (Or.inl z)
        · by_cases q : t = k
          · subst q; exact Or.inr ⟨z3, z4⟩
          · exact Or.inl (Or.inr ⟨t, z1, fun y => z2 ((lb_clear hlow t).mpr ⟨y, q⟩), z3, z4⟩)
set_option maxHeartbeats 4000000 in
set_option maxRecDepth 100000 in
theorem bd_X5_goOn : ∀ As w P K, qq_Sat ww_sh ww_ro cs_X5_goOn (qq_at 117 kd_X5_goOn) none P K → T_X5_goOn As w P → K 0 (lv_args 0 As) [] w := by
  intro As w P K S h
  unfold T_X5_goOn at h
  split at h
  · rename_i a b x
    obtain ⟨⟨⟨hp, han, hp2, hp3, hw⟩, hf⟩, hq⟩ := h
    obtain ⟨ea, ha⟩ := qn_eq hp (by decide)
    obtain ⟨eb, hb⟩ := qn_eq hp2 (by decide)
    obtain ⟨ex, hx⟩ := qn_eq hp3 (by decide)
    have i1 := nI_ml ea (x := 1) (i := 1) rfl (nI_lit 10)
    have i0 := nI_ml ea (x := 0) (i := 0) rfl (nI_lit 10)
    have c1 : w.1 13 (a * 10 + 1).toNatClampNeg = w.1 13 (10 * qn a + 1) := by rw [i_c i1 (by omega)]
    have c0 : w.1 13 (a * 10 + 0).toNatClampNeg = w.1 13 (10 * qn a + 0) := by rw [i_c i0 (by omega)]
    refine qq_go_ok S (fun pc => Nat.beq pc 75) 60 ?_
    conv => whnf
    refine ⟨i_in 640 i1 (by omega) (by decide), ?_⟩
    conv => whnf
    refine ⟨fun h9 => ?_, fun h9 => ?_⟩
    · have h9 : ¬ w.1 13 (a * 10 + 1).toNatClampNeg = 9 := h9
      rw [c1] at h9
      conv => whnf
      refine ⟨fun h1 => ?_, fun h1 => ?_⟩
      · have h1 : ¬ w.1 13 (a * 10 + 1).toNatClampNeg = 1 := h1
        rw [c1] at h1
        conv => whnf
        have s0 := nI_st ea (b := 0) (p := 0) rfl ex
        refine ⟨i_in 2496 s0 (by omega) (by decide), ?_⟩
        conv => whnf
        refine ⟨i_in 64 ea (by omega) (by decide), ?_⟩
        conv => whnf
        have cs : w.1 19 ((a * 3 + 0) * 13 + x).toNatClampNeg = w.1 19 (39 * qn a + 13 * 0 + qn x) := by rw [i_c s0 (by omega)]
        have cl : w.2 17 a.toNatClampNeg = w.2 17 (qn a) := rfl
        refine qq_wk S (lp_goOn S (L := w.2 17 (qn a)) (x5 := w.1 19 (39 * qn a + 13 * 0 + qn x)) eb hb (hw.2.1 _) hf (fun w' h' => hq w' ⟨h'.1, fun j g => ?_⟩) 64 0 rfl (w.2 17 (qn a)) _ _ rfl (fun _ z => z) (fun t z => absurd z (by omega)) ⟨sExt_rf, fun j g => ?_⟩) ⟨rfl, rfl, ?_, rfl, rfl, trivial⟩
        · rw [h'.2 j g]
          refine or_congr Iff.rfl ⟨fun z => Or.inr (Or.inr ⟨h9, h1, z⟩), ?_⟩
          rintro (⟨z, -⟩ | ⟨z, -⟩ | ⟨-, -, z⟩)
          · exact absurd z h9
          · exact absurd z h1
          · exact z
        · constructor
          · exact Or.inl
          · rintro (z | ⟨t, z1, z2, -⟩)
            · exact z
            · exact absurd z1 z2
        · show some (Value.int (w.1 19 ((a * 3 + 0) * 13 + x).toNatClampNeg)) = _
          rw [cs]
      · have h1 : w.1 13 (a * 10 + 1).toNatClampNeg = 1 := h1
        rw [c1] at h1
        conv => whnf
        refine ⟨i_in 640 i0 (by omega) (by decide), ?_⟩
        conv => whnf
        refine ⟨⟨⟨hw.1, hp2, hp3, hw.2.1, fun c hc h => (hw.2.2 c hc h).2⟩, hf⟩, fun w' h' => ?_⟩
        conv => whnf
        refine hq w' ⟨h'.1, fun j g => ?_⟩
        have z := h'.2 j g
        have e0 : (640, w.1 13).2 (a * 10 + 0).toNatClampNeg = w.1 13 (10 * qn a + 0) := c0
        rw [e0] at z
        rw [z]
        refine or_congr Iff.rfl ⟨fun z => Or.inr (Or.inl ⟨h1, z⟩), ?_⟩
        rintro (⟨z, -⟩ | ⟨-, z⟩ | ⟨-, z, -⟩)
        · exact absurd z h9
        · exact z
        · exact absurd h1 z
    · have h9 : w.1 13 (a * 10 + 1).toNatClampNeg = 9 := h9
      rw [c1] at h9
      conv => whnf
      refine ⟨⟨⟨hp, hp2, hp3, (hw.2.2 _ han h9).1, hw.2.1⟩, hf⟩, fun w' h' => ?_⟩
      conv => whnf
      refine hq w' ⟨h'.1, fun j g => ?_⟩
      rw [h'.2 j g]
      refine or_congr Iff.rfl ⟨fun z => Or.inl ⟨h9, z⟩, ?_⟩
      rintro (⟨-, z⟩ | ⟨z, -⟩ | ⟨z, -⟩)
      · exact z
      · rw [h9] at z; exact absurd z (by decide)
      · exact absurd h9 z
  · exact h.elim
theorem ha_X5_goOn : ∀ As w P, T_X5_goOn As w P → qq_wd As ≤ 9 := by
  intro As w P h
  unfold T_X5_goOn at h
  split at h
  · exact Nat.le_of_ble_eq_true rfl
  · exact h.elim
theorem hv_X5_goOn : ∀ As w P, T_X5_goOn As w P → ∃ (k : Nat) (r : List Value) (fs : List Nat), As = .ref k :: r ∧ ww_sh[k]? = some (.inr (5, fs)) := by
  intro As w P h
  unfold T_X5_goOn at h
  split at h
  · exact ⟨_, _, _, rfl, rfl⟩
  · exact h.elim
set_option maxRecDepth 100000 in
theorem M_X5_goOn (l : Launch) : qq_M l ww_T ww_N vwCl ww_sh ww_ro ww_zs yX5_goOn cX5_goOn 9 none (ww_rm 4) T_X5_goOn := by
  refine qq_mk (host := RX7) (is := ki_X5_goOn) (cs := cs_X5_goOn) (by decide) ww_k1 wl_X5 ww_so ww_so2 kc_X5_goOn kv_X5_goOn kg_X5_goOn ?_ ha_X5_goOn bd_X5_goOn
  intro k i q hi hq
  match k, hi, hq with
  | 0, hi, hq => cases hi; cases hq; exact fun p e s m args below meth c D tys tC ad Q pc X hdg => qq_cV (ci := 3) X ww_gd (M_X3_of l) kf_X3_of.1 (Or.inl (ww_a3 (i := 77) (w := Cond.methodLink RX5 95 yX3_of) rfl rfl)) kf_X3_of.2.1 kf_X3_of.2.2.1 kf_X3_of.2.2.2 ⟨by decide, by decide, by decide +kernel⟩ rfl rfl rfl ⟨by decide, by decide⟩ ⟨Nat.le_refl _, Nat.le_refl _⟩ hv_X3_of hdg
  | 1, hi, hq => cases hi; cases hq; exact fun p e s m args below meth c D tys tC ad Q pc X hdg => qq_cV (ci := 5) X ww_gd (M_X5_goOnFromCall l) kf_X5_goOnFromCall.1 (Or.inl (ww_a3 (i := 78) (w := Cond.methodLink RX5 98 yX5_goOnFromCall) rfl rfl)) kf_X5_goOnFromCall.2.1 kf_X5_goOnFromCall.2.2.1 kf_X5_goOnFromCall.2.2.2 ⟨by decide, by decide, by decide +kernel⟩ rfl rfl rfl ⟨by decide, by decide⟩ ⟨Nat.le_refl _, Nat.le_refl _⟩ hv_X5_goOnFromCall hdg
  | 2, hi, hq => cases hi; cases hq; exact fun p e s m args below meth c D tys tC ad Q pc X hdg => qq_cV (ci := 5) X ww_gd (M_X5_goOnFromLeave l) kf_X5_goOnFromLeave.1 (Or.inl (ww_a3 (i := 91) (w := Cond.methodLink RX5 101 yX5_goOnFromLeave) rfl rfl)) kf_X5_goOnFromLeave.2.1 kf_X5_goOnFromLeave.2.2.1 kf_X5_goOnFromLeave.2.2.2 ⟨by decide, by decide, by decide +kernel⟩ rfl rfl rfl ⟨by decide, by decide⟩ ⟨Nat.le_refl _, Nat.le_refl _⟩ hv_X5_goOnFromLeave hdg
  | 3, hi, hq => cases hi; cases hq; exact fun p e s m args below meth c D tys tC ad Q pc X hdg => qq_cV (ci := 5) X ww_gd (M_X5_step l) kf_X5_step.1 (Or.inl (ww_a3 (i := 82) (w := Cond.methodLink RX5 104 yX5_step) rfl rfl)) kf_X5_step.2.1 kf_X5_step.2.2.1 kf_X5_step.2.2.2 ⟨by decide, by decide, by decide +kernel⟩ rfl rfl rfl ⟨by decide, by decide⟩ ⟨Nat.le_refl _, Nat.le_refl _⟩ hv_X5_step hdg
  | 4, hi, hq => cases hi; cases hq; exact fun p e s m args below meth c D tys tC ad Q pc X hdg => qq_cS X ww_gd (M_X7_lowest l) kf_X7_lowest.1 (Or.inr ⟨RX7, ww_n3 (i := 107) (w := Cond.methodLinkNest RX5 111 yX7_lowest RX7) rfl rfl⟩) kf_X7_lowest.2.1 kf_X7_lowest.2.2 ⟨by decide, by decide, by decide +kernel⟩ rfl rfl ⟨by decide, by decide⟩ ⟨Nat.le_refl _, Nat.le_refl _⟩ hdg
  | 5, hi, hq => cases hi; cases hq; exact fun p e s m args below meth c D tys tC ad Q pc X hdg => qq_cV (ci := 5) X ww_gd (M_X5_add l) kf_X5_add.1 (Or.inl (ww_a3 (i := 64) (w := Cond.methodLink RX5 89 yX5_add) rfl rfl)) kf_X5_add.2.1 kf_X5_add.2.2.1 kf_X5_add.2.2.2 ⟨by decide, by decide, by decide +kernel⟩ rfl rfl rfl ⟨by decide, by decide⟩ ⟨Nat.le_refl _, Nat.le_refl _⟩ hv_X5_add hdg
  | n + 6, hi, hq => simp [cs_X5_goOn] at hq
abbrev cs_X5_countStates : List (Nat × qq_t) := [(2, T_X5_holding), (1, T_J6_bitCount_0f7a4)]
/-- bits of a row's sets, summed over nodes -/
def cCount (f : Nat → Int32) : Nat → Nat
  | 0 => 0
  | n + 1 => cCount f n + pcb (f n) 13
theorem pcb_le (x : Int32) : ∀ n, pcb x n ≤ n
  | 0 => Nat.le_refl 0
  | n + 1 => by
    have := pcb_le x n
    unfold pcb
    split <;> omega
theorem cCount_le (f : Nat → Int32) : ∀ n, cCount f n ≤ 13 * n
  | 0 => Nat.le_refl 0
  | n + 1 => by
    have := cCount_le f n
    have := pcb_le (f n) 13
    unfold cCount
    omega
def T_X5_countStates : qq_t := fun As w P => match As with
  | [.ref 3, .int x] => (vp_in (w.1 1 10) 65 ∧ ∀ j, j < 832 → fs (w.1 20 j)) ∧ P (some (.int (nI (cCount (fun n => qq_or (w.1 20) (13 * n) 13 &&& x) (qn (w.1 1 10)))))) w
  | _ => False
theorem qq_or_fs {f : Nat → Int32} {b : Nat} (h : ∀ j, fs (f j)) : ∀ n, fs (qq_or f b n)
  | 0 => fs_0
  | n + 1 => fs_or (qq_or_fs h n) (h _)
theorem qq_or_fs2 {f : Nat → Int32} {b : Nat} : ∀ n, (∀ i, i < n → fs (f (b + i))) → fs (qq_or f b n)
  | 0, _ => fs_0
  | n + 1, h => fs_or (qq_or_fs2 n (fun i hi => h i (by omega))) (h n (by omega))
theorem lp_countStates {P : Option Value → qq_w → Prop} {K : Nat → qq_L → List Value → qq_w → Prop} (S : qq_Sat ww_sh ww_ro cs_X5_countStates (qq_at 36 kd_X5_countStates) (some .int) P K) {w : qq_w} {x : Int32} {n : Nat} (en : w.1 1 10 = nI n) (hn : n ≤ 64) (hfs : ∀ j, j < 832 → fs (w.1 20 j)) (hq : P (some (.int (nI (cCount (fun n => qq_or (w.1 20) (13 * n) 13 &&& x) n)))) w) :
    ∀ m i, i + m = n → ∀ x2 x3 : Int32, x3 = nI i → x2 = nI (cCount (fun n => qq_or (w.1 20) (13 * n) 13 &&& x) i) → K 4 [(0, .ref 3), (1, .int x), (2, .int x2), (3, .int x3)] [] w := by
  intro m
  induction m with
  | zero =>
    intro i hi x2 x3 e3 e2
    have : i = n := by omega
    subst this
    refine qq_go_ok S (fun pc => Nat.beq pc 4) 60 ?_
    conv => whnf
    refine br_t (i_ge' e3 en (by omega) (by omega)) ?_
    conv => whnf
    rw [e2]
    exact hq
  | succ m ih =>
    intro i hi x2 x3 e3 e2
    refine qq_go_ok S (fun pc => Nat.beq pc 4) 60 ?_
    conv => whnf
    refine br_f (i_lt' e3 en (by omega) (by omega)) ?_
    conv => whnf
    refine ⟨i_in 64 e3 (by omega) (by decide), ?_⟩
    conv => whnf
    have q3 : qn x3 = i := by rw [e3]; exact qn_nI (by omega)
    refine ⟨fs_and (qq_or_fs2 13 (fun j hj => hfs _ (by omega))), ?_⟩
    conv => whnf
    refine qq_wk S (ih (i + 1) (by omega) _ _ (i_s e3) ?_) ⟨rfl, rfl, rfl, rfl, trivial⟩
    rw [e2, q3, nI_add]
    rfl
set_option maxHeartbeats 4000000 in
set_option maxRecDepth 100000 in
theorem bd_X5_countStates : ∀ As w P K, qq_Sat ww_sh ww_ro cs_X5_countStates (qq_at 36 kd_X5_countStates) (some .int) P K → T_X5_countStates As w P → K 0 (lv_args 0 As) [] w := by
  intro As w P K S h
  unfold T_X5_countStates at h
  split at h
  · rename_i x
    obtain ⟨⟨hp, hp2⟩, hq⟩ := h
    obtain ⟨en, hn⟩ := qn_eq hp (by decide)
    refine qq_go_ok S (fun pc => Nat.beq pc 4) 60 ?_
    conv => whnf
    exact qq_wk S (lp_countStates S en (by omega) hp2 hq _ 0 (Nat.zero_add _) _ _ rfl rfl) ⟨rfl, rfl, rfl, rfl, trivial⟩
  · exact h.elim
theorem ha_X5_countStates : ∀ As w P, T_X5_countStates As w P → qq_wd As ≤ 4 := by
  intro As w P h
  unfold T_X5_countStates at h
  split at h
  · exact Nat.le_of_ble_eq_true rfl
  · exact h.elim
theorem hv_X5_countStates : ∀ As w P, T_X5_countStates As w P → ∃ (k : Nat) (r : List Value) (fs : List Nat), As = .ref k :: r ∧ ww_sh[k]? = some (.inr (5, fs)) := by
  intro As w P h
  unfold T_X5_countStates at h
  split at h
  · exact ⟨_, _, _, rfl, rfl⟩
  · exact h.elim
set_option maxRecDepth 100000 in
theorem M_X5_countStates (l : Launch) : qq_M l ww_T ww_N vwCl ww_sh ww_ro ww_zs yX5_countStates cX5_countStates 4 (some .int) (ww_rm 2) T_X5_countStates := by
  refine qq_mk (host := RX7) (is := ki_X5_countStates) (cs := cs_X5_countStates) (by decide) ww_k1 wl_X5 ww_so ww_so2 kc_X5_countStates kv_X5_countStates kg_X5_countStates ?_ ha_X5_countStates bd_X5_countStates
  intro k i q hi hq
  match k, hi, hq with
  | 0, hi, hq => cases hi; cases hq; exact fun p e s m args below meth c D tys tC ad Q pc X hdg => qq_cV (ci := 5) X ww_gd (M_X5_holding l) kf_X5_holding.1 (Or.inl (ww_a3 (i := 144) (w := Cond.methodLink RX5 131 yX5_holding) rfl rfl)) kf_X5_holding.2.1 kf_X5_holding.2.2.1 kf_X5_holding.2.2.2 ⟨by decide, by decide, by decide +kernel⟩ rfl rfl rfl ⟨by decide, by decide⟩ ⟨Nat.le_refl _, Nat.le_refl _⟩ hv_X5_holding hdg
  | 1, hi, hq => cases hi; cases hq; exact fun p e s m args below meth c D tys tC ad Q pc X hdg => qq_cS X ww_gd (M_J6_bitCount_0f7a4 l) kf_J6_bitCount_0f7a4.1 (Or.inl (ww_a3 (i := 145) (w := Cond.methodLink RX5 137 yJ6_bitCount_0f7a4) rfl rfl)) kf_J6_bitCount_0f7a4.2.1 kf_J6_bitCount_0f7a4.2.2 ⟨by decide, by decide, by decide +kernel⟩ rfl rfl ⟨by decide, by decide⟩ ⟨Nat.le_refl _, Nat.le_refl _⟩ hdg
  | n + 2, hi, hq => simp [cs_X5_countStates] at hq
