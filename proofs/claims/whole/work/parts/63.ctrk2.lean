theorem s_ll : ∀ n, n < 64 → (((nI n).toInt64 &&& 63).toBitVec.smod 64).toNat = n := by decide +kernel
theorem lb_and (x y : Int64) (i : Nat) : lb (x &&& y) i = (lb x i && lb y i) := BitVec.getLsbD_and
theorem lb_sshr (n : Nat) (hn : n < 64) (x : Int64) {i : Nat} (hi : i < 64) : lb (x >>> ((nI n).toInt64 &&& 63)) i = if n + i < 64 then lb x (n + i) else lb x 63 := by
  unfold lb
  rw [Int64.toBitVec_shiftRight]
  show (x.toBitVec.sshiftRight (((nI n).toInt64 &&& 63).toBitVec.smod 64).toNat).getLsbD i = _
  rw [s_ll n hn, BitVec.getLsbD_sshiftRight, BitVec.msb_eq_getLsbD_last]
  simp [hi]
theorem lb_1 (i : Nat) : lb 1 i = decide (i = 0) := by
  rcases Nat.lt_or_ge i 64 with h | h
  · exact (by decide +kernel : ∀ i, i < 64 → lb 1 i = decide (i = 0)) i h
  · rw [lb_big h, decide_eq_false (by omega)]
theorem lb_has {n : Nat} (hn : n < 64) (x : Int64) : (x >>> ((nI n).toInt64 &&& 63)) &&& 1 = 0 ↔ lb x n = false := by
  constructor
  · intro h
    have h1 : lb ((x >>> ((nI n).toInt64 &&& 63)) &&& 1) 0 = false := by rw [h, lb_0]
    rw [lb_and, lb_sshr n (by omega) x (by omega), lb_1, if_pos (by omega)] at h1
    simpa using h1
  · intro h
    refine lb_ext fun i hi => ?_
    rw [lb_and, lb_sshr n (by omega) x hi, lb_1, lb_0]
    by_cases hi0 : i = 0
    · subst hi0
      rw [if_pos (by omega), Nat.add_zero, h]
      rfl
    · simp [hi0]
abbrev cs_X6_goBackAlongEdge : List (Nat × qq_t) := [(3, T_X3_leadsTo), (2, T_X6_goBackWithin)]
def T_X6_goBackAlongEdge : qq_t := fun As w P => match As with
  | [.ref 5] => ∃ n f d n' f', (cTp w (qn (w.1 1 10)) (qn (w.1 1 9)) ∧ cAt w n f d ∧ n < qn (w.1 1 10) ∧ f < 13 ∧ d < 13 ∧ bL (cD w) n d f < 300 ∧ f' < 13 ∧ lst (bPE (cD w) n d f) (13 * n' + f')) ∧ P (some (.int 1)) (cMove w (nI n') (nI f'))
  | _ => False
theorem ge_2 {P : Option Value → qq_w → Prop} {K : Nat → qq_L → List Value → qq_w → Prop} (S : qq_Sat ww_sh ww_ro cs_X6_goBackAlongEdge (qq_at 47 kd_X6_goBackAlongEdge) (some .int) P K) {w : qq_w} {n f d n' f' N M : Nat} (eN : qn (w.1 1 10) = N) (eM : qn (w.1 1 9) = M) (hT : cTp w N M) (hA : cAt w n f d) (hn : n < N) (hf : f < 13) (hd : d < 13) (hV : bL (cBD w N M) n d f < 300) (hf' : f' < 13) (hx : lst (bPE (cBD w N M) n d f) (13 * n' + f')) (hq : P (some (.int 1)) (cMove w (nI n') (nI f'))) :
    ∀ r i, i + r = n' → ∀ x1 : Int32, x1 = nI i → K 2 [(0, .ref 5), (1, .int x1)] [] w := by
  have hN := hT.1.2.1
  have hx1 := hx.1
  unfold bPE at hx1
  rw [show (13 * n' + f') / 13 = n' by omega, show (13 * n' + f') % 13 = f' by omega] at hx1
  have hn' : n' < N := hx1.1.1
  have hle : ∀ i x1, x1 = nI i → i < N → ((w.2 17 x1.toNatClampNeg >>> ((w.1 5 12).toInt64 &&& 63)) &&& 1 = 0 ↔ ¬ bE (cBD w N M) i n) := fun i x1 e1 hi => by
    rw [hA.1, lb_has (by omega), i_c e1 (by omega), cD_E hi hn]
    simp
  have mk : ∀ i g, g < 13 → (bPE (cBD w N M) n d f (13 * i + g) ↔ bE (cBD w N M) i n ∧ bL (cBD w N M) i d g + 1 = bL (cBD w N M) n d f ∧ bF (cBD w N M) i 0 g f) := fun i g hg => by
    unfold bPE
    rw [show (13 * i + g) / 13 = i by omega, show (13 * i + g) % 13 = g by omega]
  intro r
  induction r with
  | zero =>
    intro i hi x1 e1
    have : i = n' := by omega
    subst this
    have q1 : qn x1 = i := by rw [e1]; exact qn_nI (by omega)
    refine qq_go_ok S (fun pc => Nat.beq pc 2) 60 ?_
    conv => whnf
    refine br_f (i_lt' e1 hT.1.1 (by omega) (by omega)) ?_
    conv => whnf
    refine ⟨i_in 64 e1 (by omega) (by decide), ?_⟩
    conv => whnf
    refine br_f (fun z => (hle i x1 e1 hn').mp (lcmp0.mp z) hx1.1) ?_
    conv => whnf
    refine br_f (by decide) ?_
    conv => whnf
    refine ⟨n, f, d, bL (cBD w N M) n d f, ⟨by rw [eN, eM]; exact hT, hA, by rw [eN]; exact hn, hf, hd, i_in 64 e1 (by omega) (by decide), by rw [eN, q1]; exact hn', by unfold cD; rw [eN, eM], hV⟩, fun g hg => ?_, fun hno => ?_⟩
    · have hg : lst (fun g => bL (cBD w (qn (w.1 1 10)) (qn (w.1 1 9))) (qn x1) d g + 1 = bL (cBD w N M) n d f ∧ bF (cBD w (qn (w.1 1 10)) (qn (w.1 1 9))) (qn x1) 0 g f) g := hg
      rw [eN, eM, q1] at hg
      have hg13 : g < 13 := hg.1.2.2.1
      have : 13 * i + g = 13 * i + f' := by
        refine lst_uq ⟨(mk i g hg13).mpr ⟨hx1.1, hg.1⟩, fun y hy hP => ?_⟩ hx
        by_cases q : y < 13 * i + f'
        · exact hx.2 y q hP
        · have : f' < g := by omega
          exact hg.2 f' this ⟨hx1.2.1, hx1.2.2⟩
      have : g = f' := by omega
      subst this
      conv => whnf
      refine br_f (by decide) ?_
      conv => whnf
      rw [← e1] at hq
      exact hq
    · have hno : ∀ g, ¬ (bL (cBD w (qn (w.1 1 10)) (qn (w.1 1 9))) (qn x1) d g + 1 = bL (cBD w N M) n d f ∧ bF (cBD w (qn (w.1 1 10)) (qn (w.1 1 9))) (qn x1) 0 g f) := hno
      rw [eN, eM, q1] at hno
      exact absurd hx1.2 (hno f')
  | succ r ih =>
    intro i hi x1 e1
    have q1 : qn x1 = i := by rw [e1]; exact qn_nI (by omega)
    refine qq_go_ok S (fun pc => Nat.beq pc 2) 60 ?_
    conv => whnf
    refine br_f (i_lt' e1 hT.1.1 (by omega) (by omega)) ?_
    conv => whnf
    refine ⟨i_in 64 e1 (by omega) (by decide), ?_⟩
    conv => whnf
    refine ⟨fun z => ?_, fun z => ?_⟩
    · conv => whnf
      refine br_t rfl ?_
      conv => whnf
      exact qq_wk S (ih (i + 1) (by omega) _ (i_s e1)) ⟨rfl, rfl, trivial⟩
    · have hle1 : bE (cBD w N M) i n := Classical.byContradiction fun y => z (lcmp0.mpr ((hle i x1 e1 (by omega)).mpr y))
      conv => whnf
      refine br_f (by decide) ?_
      conv => whnf
      refine ⟨n, f, d, bL (cBD w N M) n d f, ⟨by rw [eN, eM]; exact hT, hA, by rw [eN]; exact hn, hf, hd, i_in 64 e1 (by omega) (by decide), by rw [eN, q1]; omega, by unfold cD; rw [eN, eM], hV⟩, fun g hg => ?_, fun _ => ?_⟩
      · have hg : lst (fun g => bL (cBD w (qn (w.1 1 10)) (qn (w.1 1 9))) (qn x1) d g + 1 = bL (cBD w N M) n d f ∧ bF (cBD w (qn (w.1 1 10)) (qn (w.1 1 9))) (qn x1) 0 g f) g := hg
        rw [eN, eM, q1] at hg
        have hg13 : g < 13 := hg.1.2.2.1
        exact absurd ((mk i g hg13).mpr ⟨hle1, hg.1⟩) (hx.2 _ (by omega))
      · conv => whnf
        refine br_t rfl ?_
        conv => whnf
        exact qq_wk S (ih (i + 1) (by omega) _ (i_s e1)) ⟨rfl, rfl, trivial⟩
set_option maxHeartbeats 4000000 in
set_option maxRecDepth 100000 in
theorem bd_X6_goBackAlongEdge : ∀ As w P K, qq_Sat ww_sh ww_ro cs_X6_goBackAlongEdge (qq_at 47 kd_X6_goBackAlongEdge) (some .int) P K → T_X6_goBackAlongEdge As w P → K 0 (lv_args 0 As) [] w := by
  intro As w P K S h
  unfold T_X6_goBackAlongEdge at h
  split at h
  · skip
    obtain ⟨n, f, d, n', f', ⟨hT, hA, hn, hf, hd, hV, hf', hx⟩, hq⟩ := h
    refine qq_go_ok S (fun pc => Nat.beq pc 2) 60 ?_
    conv => whnf
    exact qq_wk S (ge_2 S rfl rfl hT hA hn hf hd hV hf' hx hq n' 0 (Nat.zero_add _) _ rfl) ⟨rfl, rfl, trivial⟩
  · exact h.elim
theorem ha_X6_goBackAlongEdge : ∀ As w P, T_X6_goBackAlongEdge As w P → qq_wd As ≤ 2 := by
  intro As w P h
  unfold T_X6_goBackAlongEdge at h
  split at h
  · exact Nat.le_of_ble_eq_true rfl
  · exact h.elim
theorem hv_X6_goBackAlongEdge : ∀ As w P, T_X6_goBackAlongEdge As w P → ∃ (k : Nat) (r : List Value) (fs : List Nat), As = .ref k :: r ∧ ww_sh[k]? = some (.inr (6, fs)) := by
  intro As w P h
  unfold T_X6_goBackAlongEdge at h
  split at h
  · exact ⟨_, _, _, rfl, rfl⟩
  · exact h.elim
set_option maxRecDepth 100000 in
theorem M_X6_goBackAlongEdge (l : Launch) : qq_M l ww_T ww_N vwCl ww_sh ww_ro ww_zs yX6_goBackAlongEdge cX6_goBackAlongEdge 2 (some .int) (ww_rm 2) T_X6_goBackAlongEdge := by
  refine qq_mk (host := RX7) (is := ki_X6_goBackAlongEdge) (cs := cs_X6_goBackAlongEdge) (by decide) ww_k1 wl_X6 ww_so ww_so2 kc_X6_goBackAlongEdge kv_X6_goBackAlongEdge kg_X6_goBackAlongEdge ?_ ha_X6_goBackAlongEdge bd_X6_goBackAlongEdge
  intro k i q hi hq
  match k, hi, hq with
  | 0, hi, hq => cases hi; cases hq; exact fun p e s m args below meth c D tys tC ad Q pc X hdg => qq_cV (ci := 3) X ww_gd (M_X3_leadsTo l) kf_X3_leadsTo.1 (Or.inl (ww_a4 (i := 89) (w := Cond.methodLink RX6 129 yX3_leadsTo) rfl rfl)) kf_X3_leadsTo.2.1 kf_X3_leadsTo.2.2.1 kf_X3_leadsTo.2.2.2 ⟨by decide, by decide, by decide +kernel⟩ rfl rfl rfl ⟨by decide, by decide⟩ ⟨Nat.le_refl _, Nat.le_refl _⟩ hv_X3_leadsTo hdg
  | 1, hi, hq => cases hi; cases hq; exact fun p e s m args below meth c D tys tC ad Q pc X hdg => qq_cV (ci := 6) X ww_gd (M_X6_goBackWithin l) kf_X6_goBackWithin.1 (Or.inl (ww_a4 (i := 93) (w := Cond.methodLink RX6 132 yX6_goBackWithin) rfl rfl)) kf_X6_goBackWithin.2.1 kf_X6_goBackWithin.2.2.1 kf_X6_goBackWithin.2.2.2 ⟨by decide, by decide, by decide +kernel⟩ rfl rfl rfl ⟨by decide, by decide⟩ ⟨Nat.le_refl _, Nat.le_refl _⟩ hv_X6_goBackWithin hdg
  | n + 2, hi, hq => simp [cs_X6_goBackAlongEdge] at hq
abbrev cs_X6_goBackInto : List (Nat × qq_t) := [(3, T_X3_of), (2, T_X3_leaveOf), (4, T_X2_level), (4, T_X5_step), (2, T_X7_has), (3, T_X6_move)]
/-- a call is laid, and one goes into what it calls -/
def cPush (w : qq_w) (c e g l h : Int32) : qq_w := cMove (qq_ui (qq_ui (qq_ui (qq_ui (qq_ui w 29 (w.1 5 11).toNatClampNeg c) 30 (w.1 5 11).toNatClampNeg e) 31 (w.1 5 11).toNatClampNeg (w.1 5 14)) 5 11 (w.1 5 11 + 1)) 5 14 g) l h
def T_X6_goBackInto : qq_t := fun As w P => match As with
  | [.ref 5, .int c, .int e, .int g, .long x] => ∃ f k l, (cTp w (qn (w.1 1 10)) (qn (w.1 1 9)) ∧ w.1 5 13 = nI f ∧ f < 13 ∧ w.1 5 11 = nI k ∧ k < 300 ∧ vp_in c 64 ∧ qn c < qn (w.1 1 10) ∧ cX w (qn c) 1 = 9 ∧ vp_in e 13 ∧ vp_in g 13 ∧ w.1 12 (qn (cX w (qn c) 5)) = nI l ∧ l < 64) ∧ (∀ h, h < 13 → lst (fun h => w.2 33 (169 * (l + 1) + 13 * qn g + h) = x ∧ bt (w.1 19 (39 * qn c + 13 * 2 + h)) f = true) h → P (some (.int 1)) (cPush w c e g (nI (l + 1)) (nI h))) ∧ ((∀ h, h < 13 → ¬ (w.2 33 (169 * (l + 1) + 13 * qn g + h) = x ∧ bt (w.1 19 (39 * qn c + 13 * 2 + h)) f = true)) → P (some (.int 0)) w)
  | _ => False
theorem gi_72 {P : Option Value → qq_w → Prop} {K : Nat → qq_L → List Value → qq_w → Prop} (S : qq_Sat ww_sh ww_ro cs_X6_goBackInto (qq_at 155 kd_X6_goBackInto) (some .boolean) P K) {w : qq_w} {c e g x6 x7 b : Int32} {x : Int64} {k : Nat} (ek : w.1 5 11 = nI k) (hk : k < 300) {R : Prop} (hR : (b = 1 ∧ R) ∨ (b = 0 ∧ ¬ R))
    (hy : R → P (some (.int 1)) (cPush w c e g x6 x7)) (hn : ¬ R → K 21 [(0, .ref 5), (1, .int c), (2, .int e), (3, .int g), (4, .long x), (6, .int x6), (7, .int (x7 + 1))] [] w) :
    K 72 [(0, .ref 5), (1, .int c), (2, .int e), (3, .int g), (4, .long x), (6, .int x6), (7, .int x7)] [.int b] w := by
  refine qq_go_ok S (fun pc => Nat.beq pc 21) 60 ?_
  conv => whnf
  refine ⟨fun z => ?_, fun z => ?_⟩
  · have hR : ¬ R := by
      rcases hR with ⟨r1, -⟩ | ⟨-, r2⟩
      · exact absurd (r1.symm.trans z) (by decide)
      · exact r2
    conv => whnf
    exact qq_wk S (hn hR) ⟨rfl, rfl, rfl, rfl, rfl, rfl, rfl, trivial⟩
  · have hR : R := by
      rcases hR with ⟨-, r1⟩ | ⟨r1, -⟩
      · exact r1
      · exact absurd r1 z
    conv => whnf
    refine br_f (i_nge 300 ek (by omega) (by omega)) ?_
    conv => whnf
    refine ⟨i_in 300 ek (by omega) (by decide), ?_⟩
    conv => whnf
    refine ⟨i_in 300 ek (by omega) (by decide), ?_⟩
    conv => whnf
    refine ⟨i_in 300 ek (by omega) (by decide), ?_⟩
    conv => whnf
    exact hy hR
theorem gi_21 {P : Option Value → qq_w → Prop} {K : Nat → qq_L → List Value → qq_w → Prop} (S : qq_Sat ww_sh ww_ro cs_X6_goBackInto (qq_at 155 kd_X6_goBackInto) (some .boolean) P K) {w : qq_w} {c e g x6 : Int32} {x : Int64} {f k l N M cn gn : Nat} (hT : cTp w N M) (e13 : w.1 5 13 = nI f) (hf : f < 13) (ek : w.1 5 11 = nI k) (hk : k < 300) (ec : c = nI cn) (hc : cn < N) (eg : g = nI gn) (hg : gn < 13) (e6 : x6 = nI (l + 1)) (hl : l + 1 < N)
    (hy : ∀ h, h < 13 → lst (fun h => w.2 33 (169 * (l + 1) + 13 * gn + h) = x ∧ bt (w.1 19 (39 * cn + 13 * 2 + h)) f = true) h → P (some (.int 1)) (cPush w c e g x6 (nI h))) (hz : (∀ h, h < 13 → ¬ (w.2 33 (169 * (l + 1) + 13 * gn + h) = x ∧ bt (w.1 19 (39 * cn + 13 * 2 + h)) f = true)) → P (some (.int 0)) w) :
    ∀ r i, i + r = 13 → ∀ x7 : Int32, x7 = nI i → (∀ h, h < i → ¬ (w.2 33 (169 * (l + 1) + 13 * gn + h) = x ∧ bt (w.1 19 (39 * cn + 13 * 2 + h)) f = true)) → K 21 [(0, .ref 5), (1, .int c), (2, .int e), (3, .int g), (4, .long x), (6, .int x6), (7, .int x7)] [] w := by
  have hN := hT.1.2.1
  intro r
  induction r with
  | zero =>
    intro i hi x7 e7 h1
    have : i = 13 := by omega
    subst this
    refine qq_go_ok S (fun pc => Nat.beq pc 21) 60 ?_
    conv => whnf
    refine br_t (i_ge 13 e7 (by omega) (by omega)) ?_
    conv => whnf
    exact hz h1
  | succ r ih =>
    intro i hi x7 e7 h1
    have iL := nI_lv e6 eg e7
    have cL : w.2 33 ((x6 * 13 + g) * 13 + x7).toNatClampNeg = w.2 33 (169 * (l + 1) + 13 * gn + i) := by rw [i_c iL (by omega)]
    have is2 := nI_st ec (b := 2) (p := 2) rfl e7
    have c19 : w.1 19 ((c * 3 + 2) * 13 + x7).toNatClampNeg = w.1 19 (39 * cn + 13 * 2 + i) := by rw [i_c is2 (by omega)]
    have hbit : (w.1 19 ((c * 3 + 2) * 13 + x7).toNatClampNeg >>> (w.1 5 13 &&& 31)) &&& 1 = 0 ↔ bt (w.1 19 (39 * cn + 13 * 2 + i)) f = false := by rw [ck_bit e13 hf, c19]
    have key : ∀ b : Int32, ((b = 1 ∧ (w.2 33 (169 * (l + 1) + 13 * gn + i) = x ∧ bt (w.1 19 (39 * cn + 13 * 2 + i)) f = true)) ∨ (b = 0 ∧ ¬ (w.2 33 (169 * (l + 1) + 13 * gn + i) = x ∧ bt (w.1 19 (39 * cn + 13 * 2 + i)) f = true))) → K 72 [(0, .ref 5), (1, .int c), (2, .int e), (3, .int g), (4, .long x), (6, .int x6), (7, .int x7)] [.int b] w := fun b hb => by
      refine gi_72 S ek hk hb (fun hR => ?_) (fun hR => ih (i + 1) (by omega) _ (i_s e7) (fun h hh => ?_))
      · have := hy i (by omega) ⟨hR, h1⟩
        rw [← e7] at this
        exact this
      · by_cases q : h = i
        · subst q; exact hR
        · exact h1 h (by omega)
    refine qq_go_ok S (fun pc => Nat.beq pc 72) 60 ?_
    conv => whnf
    refine br_f (i_nge 13 e7 (by omega) (by omega)) ?_
    conv => whnf
    refine ⟨i_in 10816 iL (by omega) (by decide), ?_⟩
    conv => whnf
    refine ⟨fun z => ?_, fun z => ?_⟩
    · have z : ¬ w.2 33 ((x6 * 13 + g) * 13 + x7).toNatClampNeg = x := fun y => z (lcmp0.mpr y)
      rw [cL] at z
      conv => whnf
      exact qq_wk S (key 0 (Or.inr ⟨rfl, fun y => z y.1⟩)) ⟨rfl, rfl, rfl, rfl, rfl, rfl, rfl, trivial⟩
    · have z : w.2 33 ((x6 * 13 + g) * 13 + x7).toNatClampNeg = x := lcmp0.mp z
      rw [cL] at z
      conv => whnf
      refine ⟨i_in 2496 is2 (by omega) (by decide), ?_⟩
      conv => whnf
      refine ⟨fun z2 => ?_, fun z2 => ?_⟩
      · have z2 := hbit.mp z2
        conv => whnf
        refine br_t rfl ?_
        conv => whnf
        exact qq_wk S (key 0 (Or.inr ⟨rfl, fun y => by rw [z2] at y; exact absurd y.2 (by decide)⟩)) ⟨rfl, rfl, rfl, rfl, rfl, rfl, rfl, trivial⟩
      · have z2 := bt_not (fun y => z2 (hbit.mpr y))
        conv => whnf
        refine br_f (by decide) ?_
        conv => whnf
        exact qq_wk S (key 1 (Or.inl ⟨rfl, z, z2⟩)) ⟨rfl, rfl, rfl, rfl, rfl, rfl, rfl, trivial⟩
set_option maxHeartbeats 4000000 in
set_option maxRecDepth 100000 in
theorem bd_X6_goBackInto : ∀ As w P K, qq_Sat ww_sh ww_ro cs_X6_goBackInto (qq_at 155 kd_X6_goBackInto) (some .boolean) P K → T_X6_goBackInto As w P → K 0 (lv_args 0 As) [] w := by
  intro As w P K S h
  unfold T_X6_goBackInto at h
  split at h
  · rename_i c e g x
    obtain ⟨f, k, l, ⟨hT, e13, hf, ek, hk, hp, hc, k9, hp2, hp3, el, hl64⟩, hy, hz⟩ := h
    obtain ⟨ec, hc64⟩ := qn_eq hp (by decide)
    obtain ⟨eg, hg⟩ := qn_eq hp3 (by decide)
    have hN := hT.1.2.1
    obtain ⟨p, r, l', q1, q2, q3, q4, q5, q6, -⟩ := hT.1.2.2.1 (qn c) hc k9
    have : l = l' := by
      rw [q4, qn_nI (by omega), q6] at el
      exact ((nI_eq (by omega) (by omega)).mp el).symm
    subst this
    have i5 := nI_ml ec (x := 5) (i := 5) rfl (nI_lit 10)
    have c5 : w.1 13 (c * 10 + 5).toNatClampNeg = nI p := by rw [i_c i5 (by omega)]; exact q4
    have c12 : w.1 12 (w.1 13 (c * 10 + 5).toNatClampNeg).toNatClampNeg + 1 = nI (l + 1) := by rw [i_c c5 (by omega), q6]; exact i_s rfl
    refine qq_go_ok S (fun pc => Nat.beq pc 21) 60 ?_
    conv => whnf
    refine ⟨i_in 640 i5 (by omega) (by decide), ?_⟩
    conv => whnf
    refine ⟨i_in 8 c5 (by omega) (by decide), ?_⟩
    conv => whnf
    exact qq_wk S (gi_21 S (x6 := w.1 12 (w.1 13 (c * 10 + 5).toNatClampNeg).toNatClampNeg + 1) (l := l) hT e13 hf ek hk ec hc eg hg c12 q3 (by rw [c12]; exact hy) hz 13 0 rfl _ rfl (fun h hh => absurd hh (by omega))) ⟨rfl, rfl, rfl, rfl, rfl, rfl, rfl, trivial⟩
  · exact h.elim
theorem ha_X6_goBackInto : ∀ As w P, T_X6_goBackInto As w P → qq_wd As ≤ 9 := by
  intro As w P h
  unfold T_X6_goBackInto at h
  split at h
  · exact Nat.le_of_ble_eq_true rfl
  · exact h.elim
theorem hv_X6_goBackInto : ∀ As w P, T_X6_goBackInto As w P → ∃ (k : Nat) (r : List Value) (fs : List Nat), As = .ref k :: r ∧ ww_sh[k]? = some (.inr (6, fs)) := by
  intro As w P h
  unfold T_X6_goBackInto at h
  split at h
  · exact ⟨_, _, _, rfl, rfl⟩
  · exact h.elim
set_option maxRecDepth 100000 in
theorem M_X6_goBackInto (l : Launch) : qq_M l ww_T ww_N vwCl ww_sh ww_ro ww_zs yX6_goBackInto cX6_goBackInto 9 (some .boolean) (ww_rm 1) T_X6_goBackInto := by
  refine qq_mk (host := RX7) (is := ki_X6_goBackInto) (cs := cs_X6_goBackInto) (by decide) ww_k1 wl_X6 ww_so ww_so2 kc_X6_goBackInto kv_X6_goBackInto kg_X6_goBackInto ?_ ha_X6_goBackInto bd_X6_goBackInto
  intro k i q hi hq
  match k, hi, hq with
  | 0, hi, hq => cases hi; cases hq; exact fun p e s m args below meth c D tys tC ad Q pc X hdg => qq_cV (ci := 3) X ww_gd (M_X3_of l) kf_X3_of.1 (Or.inl (ww_a4 (i := 71) (w := Cond.methodLink RX6 87 yX3_of) rfl rfl)) kf_X3_of.2.1 kf_X3_of.2.2.1 kf_X3_of.2.2.2 ⟨by decide, by decide, by decide +kernel⟩ rfl rfl rfl ⟨by decide, by decide⟩ ⟨Nat.le_refl _, Nat.le_refl _⟩ hv_X3_of hdg
  | 1, hi, hq => cases hi; cases hq; exact fun p e s m args below meth c D tys tC ad Q pc X hdg => qq_cV (ci := 3) X ww_gd (M_X3_leaveOf l) kf_X3_leaveOf.1 (Or.inl (ww_a4 (i := 111) (w := Cond.methodLink RX6 145 yX3_leaveOf) rfl rfl)) kf_X3_leaveOf.2.1 kf_X3_leaveOf.2.2.1 kf_X3_leaveOf.2.2.2 ⟨by decide, by decide, by decide +kernel⟩ rfl rfl rfl ⟨by decide, by decide⟩ ⟨Nat.le_refl _, Nat.le_refl _⟩ hv_X3_leaveOf hdg
  | 2, hi, hq => cases hi; cases hq; exact fun p e s m args below meth c D tys tC ad Q pc X hdg => qq_cV (ci := 2) X ww_gd (M_X2_level l) kf_X2_level.1 (Or.inl (ww_a4 (i := 97) (w := Cond.methodLink RX6 136 yX2_level) rfl rfl)) kf_X2_level.2.1 kf_X2_level.2.2.1 kf_X2_level.2.2.2 ⟨by decide, by decide, by decide +kernel⟩ rfl rfl rfl ⟨by decide, by decide⟩ ⟨Nat.le_refl _, Nat.le_refl _⟩ hv_X2_level hdg
  | 3, hi, hq => cases hi; cases hq; exact fun p e s m args below meth c D tys tC ad Q pc X hdg => qq_cV (ci := 5) X ww_gd (M_X5_step l) kf_X5_step.1 (Or.inl (ww_a4 (i := 83) (w := Cond.methodLink RX6 122 yX5_step) rfl rfl)) kf_X5_step.2.1 kf_X5_step.2.2.1 kf_X5_step.2.2.2 ⟨by decide, by decide, by decide +kernel⟩ rfl rfl rfl ⟨by decide, by decide⟩ ⟨Nat.le_refl _, Nat.le_refl _⟩ hv_X5_step hdg
  | 4, hi, hq => cases hi; cases hq; exact fun p e s m args below meth c D tys tC ad Q pc X hdg => qq_cS X ww_gd (M_X7_has l) kf_X7_has.1 (Or.inr ⟨RX7, ww_n4 (i := 84) (w := Cond.methodLinkNest RX6 126 yX7_has RX7) rfl rfl⟩) kf_X7_has.2.1 kf_X7_has.2.2 ⟨by decide, by decide, by decide +kernel⟩ rfl rfl ⟨by decide, by decide⟩ ⟨Nat.le_refl _, Nat.le_refl _⟩ hdg
  | 5, hi, hq => cases hi; cases hq; exact fun p e s m args below meth c D tys tC ad Q pc X hdg => qq_cV (ci := 6) X ww_gd (M_X6_move l) kf_X6_move.1 (Or.inl (ww_a4 (i := 61) (w := Cond.methodLink RX6 75 yX6_move) rfl rfl)) kf_X6_move.2.1 kf_X6_move.2.2.1 kf_X6_move.2.2.2 ⟨by decide, by decide, by decide +kernel⟩ rfl rfl rfl ⟨by decide, by decide⟩ ⟨Nat.le_refl _, Nat.le_refl _⟩ hv_X6_move hdg
  | n + 6, hi, hq => simp [cs_X6_goBackInto] at hq
abbrev cs_X6_goBackToLeave : List (Nat × qq_t) := [(3, T_X3_of), (4, T_X2_level), (4, T_X5_step), (2, T_X7_has), (5, T_X6_goBackInto)]
def T_X6_goBackToLeave : qq_t := fun As w P => match As with
  | [.ref 5] => ∃ n f d k c e g h l, (cTp w (qn (w.1 1 10)) (qn (w.1 1 9)) ∧ cAt w n f d ∧ n < qn (w.1 1 10) ∧ f < 13 ∧ d < 13 ∧ w.1 5 11 = nI k ∧ k < 300 ∧ cX w n 1 = 10 ∧ bPa (cD w) n = c ∧ bLe (cD w) (bCa (cD w) c) = l ∧ bL (cD w) n d f < 300 ∧ e < 13 ∧ g < 13 ∧ h < 13 ∧ lst (bPT (cD w) n d f) (169 * e + 13 * g + h)) ∧ P (some (.int 4)) (cPush w (nI c) (nI e) (nI g) (nI l) (nI h))
  | _ => False
theorem tv_93 {P : Option Value → qq_w → Prop} {K : Nat → qq_L → List Value → qq_w → Prop} (S : qq_Sat ww_sh ww_ro cs_X6_goBackToLeave (qq_at 142 kd_X6_goBackToLeave) (some .int) P K) {w : qq_w} {x1 x4 x7 : Int32} {v y : Int64} {f k c N M p l V A i0 : Nat} {X : Nat → Nat → Prop} (eN : qn (w.1 1 10) = N) (eM : qn (w.1 1 9) = M) (hT : cTp w N M) (e13 : w.1 5 13 = nI f) (hf : f < 13) (ek : w.1 5 11 = nI k) (hk : k < 300) (hc : c < N) (k9 : cX w c 1 = 9) (e1 : x1 = nI c) (ep : cX w c 5 = nI p) (hp : p < 8) (el : w.1 12 p = nI l) (hl : l + 1 < N) (e4 : x4 = nI i0) (hi0 : i0 < 13) (ey : y = lN A) (hA : A ≤ 2000000000000) (ev : v + 2 = lN V) (hV : V < 300) (hX : ∀ g h, g < 13 → h < 13 → (X g h ↔ bt x7 g = true ∧ bt (w.1 19 (39 * c + 13 * 2 + h)) f = true ∧ ∃ B, w.2 33 (169 * (l + 1) + 13 * g + h) = lN B ∧ A + B + 2 = V))
    (hy : ∀ g h, g < 13 → h < 13 → X g h → (∀ g' h', h' < 13 → 13 * g' + h' < 13 * g + h → ¬ X g' h') → P (some (.int 4)) (cPush w x1 x4 (nI g) (nI (l + 1)) (nI h)))
    (hn : (∀ g h, g < 13 → h < 13 → ¬ X g h) → K 41 [(0, .ref 5), (1, .int x1), (2, .long v), (4, .int (x4 + 1))] [] w) :
    ∀ r i, i + r = 13 → ∀ x8 : Int32, x8 = nI i → (∀ g h, g < i → h < 13 → ¬ X g h) → K 93 [(0, .ref 5), (1, .int x1), (2, .long v), (4, .int x4), (5, .long y), (7, .int x7), (8, .int x8)] [] w := by
  have hN := hT.1.2.1
  have q1 : qn x1 = c := by rw [e1]; exact qn_nI (by omega)
  have hiff : ∀ B, w.2 33 B = v - y ↔ w.2 33 B + y + 2 = lN V := fun B => by
    rw [Int64.eq_sub_iff_add_eq, ← ev]
    exact ⟨fun e => by rw [e], fun e => (Int64.add_left_inj _).mp e⟩
  intro r
  induction r with
  | zero =>
    intro i hi x8 e8 h1
    have : i = 13 := by omega
    subst this
    refine qq_go_ok S (fun pc => Nat.beq pc 93 || Nat.beq pc 41) 60 ?_
    conv => whnf
    refine br_t (i_ge 13 e8 (by omega) (by omega)) ?_
    conv => whnf
    exact qq_wk S (hn h1) ⟨rfl, rfl, rfl, rfl, trivial⟩
  | succ r ih =>
    intro i hi x8 e8 h1
    have q8 : qn x8 = i := by rw [e8]; exact qn_nI (by omega)
    have hb' : (x7 >>> (x8 &&& 31)) &&& 1 = 0 ↔ bt x7 i = false := by rw [e8]; exact b_has (by omega) _
    have next : (∀ h, h < 13 → ¬ X i h) → K 93 [(0, .ref 5), (1, .int x1), (2, .long v), (4, .int x4), (5, .long y), (7, .int x7), (8, .int (x8 + 1))] [] w := fun hno => by
      refine ih (i + 1) (by omega) _ (i_s e8) (fun g h hg hh => ?_)
      by_cases q : g = i
      · subst q; exact hno h hh
      · exact h1 g h (by omega) hh
    refine qq_go_ok S (fun pc => Nat.beq pc 93 || Nat.beq pc 41) 60 ?_
    conv => whnf
    refine br_f (i_nge 13 e8 (by omega) (by omega)) ?_
    conv => whnf
    refine ⟨fun z => ?_, fun z => ?_⟩
    · have z := hb'.mp z
      conv => whnf
      refine br_t rfl ?_
      conv => whnf
      refine qq_wk S (next fun h hh y => ?_) ⟨rfl, rfl, rfl, rfl, rfl, rfl, rfl, trivial⟩
      have := ((hX i h (by omega) hh).mp y).1
      rw [z] at this
      cases this
    · have z := bt_not (fun t => z (hb'.mpr t))
      have hXi : ∀ h, h < 13 → (X i h ↔ w.2 33 (169 * (l + 1) + 13 * i + h) = v - y ∧ bt (w.1 19 (39 * c + 13 * 2 + h)) f = true) := fun h hh => by
        rw [hX i h (by omega) hh, hiff]
        obtain ⟨B, eB, hB⟩ := hT.2.2.2.2.2.1 (169 * (l + 1) + 13 * i + h) (by omega)
        have e2 : lN B + lN A + 2 = lN (B + A + 2) := by
          rw [lN_add]
          exact lN_add (B + A) 2
        constructor
        · rintro ⟨-, t2, B', eB', t3⟩
          rw [eB] at eB'
          rw [eB, ey, e2]
          have hB'63 : B' < 2 ^ 63 := by omega
          have : B = B' := (lL_eq (by omega) hB'63).mp eB'
          subst this
          exact ⟨by rw [show B + A + 2 = V by omega], t2⟩
        · rintro ⟨t1, t2⟩
          rw [eB, ey, e2] at t1
          have := (lL_eq (by omega) (by omega)).mp t1
          exact ⟨z, t2, B, eB, by omega⟩
      conv => whnf
      refine br_f (by decide) ?_
      conv => whnf
      refine ⟨f, k, l, ⟨by rw [eN, eM]; exact hT, e13, hf, ek, hk, i_in 64 e1 (by omega) (by decide), by rw [eN, q1]; exact hc, by rw [q1]; exact k9, i_in 13 e4 hi0 (by decide), i_in 13 e8 (by omega) (by decide), by rw [q1, ep, qn_nI (by omega)]; exact el, by omega⟩, fun h hh hl2 => ?_, fun hno => ?_⟩
      · have hl2 : lst (fun h => w.2 33 (169 * (l + 1) + 13 * qn x8 + h) = v - y ∧ bt (w.1 19 (39 * qn x1 + 13 * 2 + h)) f = true) h := hl2
        rw [q8, q1] at hl2
        conv => whnf
        refine br_f (by decide) ?_
        conv => whnf
        have key := hy i h (by omega) hh ((hXi h hh).mpr hl2.1) (fun g' h' hh' hlt y => ?_)
        · rw [← e8] at key
          exact key
        · by_cases q : g' = i
          · subst q
            exact hl2.2 h' (by omega) ((hXi h' hh').mp y)
          · exact h1 g' h' (by omega) hh' y
      · have hno : ∀ h, h < 13 → ¬ (w.2 33 (169 * (l + 1) + 13 * qn x8 + h) = v - y ∧ bt (w.1 19 (39 * qn x1 + 13 * 2 + h)) f = true) := hno
        rw [q8, q1] at hno
        conv => whnf
        refine br_t rfl ?_
        conv => whnf
        exact qq_wk S (next fun h hh y => hno h hh ((hXi h hh).mp y)) ⟨rfl, rfl, rfl, rfl, rfl, rfl, rfl, trivial⟩
theorem tv_88 {P : Option Value → qq_w → Prop} {K : Nat → qq_L → List Value → qq_w → Prop} (S : qq_Sat ww_sh ww_ro cs_X6_goBackToLeave (qq_at 142 kd_X6_goBackToLeave) (some .int) P K) {w : qq_w} {x1 x4 x7 : Int32} {v y : Int64} (hk : K 93 [(0, .ref 5), (1, .int x1), (2, .long v), (4, .int x4), (5, .long y), (7, .int x7), (8, .int 0)] [] w) : K 88 [(0, .ref 5), (1, .int x1), (2, .long v), (4, .int x4), (5, .long y)] [.int x7] w := by
  refine qq_go_ok S (fun pc => Nat.beq pc 93) 60 ?_
  conv => whnf
  exact qq_wk S hk ⟨rfl, rfl, rfl, rfl, rfl, rfl, rfl, trivial⟩
theorem tv_41 {P : Option Value → qq_w → Prop} {K : Nat → qq_L → List Value → qq_w → Prop} (S : qq_Sat ww_sh ww_ro cs_X6_goBackToLeave (qq_at 142 kd_X6_goBackToLeave) (some .int) P K) {w : qq_w} {x1 : Int32} {v : Int64} {n f d k c N M p l V e g h : Nat} (eN : qn (w.1 1 10) = N) (eM : qn (w.1 1 9) = M) (hT : cTp w N M) (hAt : cAt w n f d) (hn : n < N) (hf : f < 13) (hd : d < 13) (ek : w.1 5 11 = nI k) (hk : k < 300) (hc : c < N) (k9 : cX w c 1 = 9) (e1 : x1 = nI c) (ep : cX w c 5 = nI p) (hp : p < 8) (el : w.1 12 p = nI l) (hl : l + 1 < N) (ev : v + 2 = lN V) (hV : V < 300) (eV : bL (cBD w N M) n d f = V) (ePa : bPa (cBD w N M) n = c) (eLe : bLe (cBD w N M) (bCa (cBD w N M) c) = l + 1) (he : e < 13) (hg : g < 13) (hh : h < 13) (hx : lst (bPT (cBD w N M) n d f) (169 * e + 13 * g + h)) (hq : P (some (.int 4)) (cPush w x1 (nI e) (nI g) (nI (l + 1)) (nI h))) :
    ∀ r i, i + r = e → ∀ x4 : Int32, x4 = nI i → K 41 [(0, .ref 5), (1, .int x1), (2, .long v), (4, .int x4)] [] w := by
  have hN := hT.1.2.1
  have mk : ∀ e' g' h', g' < 13 → h' < 13 → (bPT (cBD w N M) n d f (169 * e' + 13 * g' + h') ↔ bF (cBD w N M) c 1 e' g' ∧ bF (cBD w N M) c 2 h' f ∧ bL (cBD w N M) c d e' + bL (cBD w N M) (l + 1) g' h' + 2 = V) := fun e' g' h' hg' hh' => by
    unfold bPT
    rw [show (169 * e' + 13 * g' + h') / 169 = e' by omega, show (169 * e' + 13 * g' + h') / 13 % 13 = g' by omega, show (169 * e' + 13 * g' + h') % 13 = h' by omega, ePa, eLe, eV]
  intro r
  induction r with
  | zero =>
    intro i hi x4 e4
    have : i = e := by omega
    subst this
    obtain ⟨A, eA, hA, hA2⟩ := cD_L (M := M) hT.2.2.2.2.2.1 hc hd (show i < 13 by omega)
    have hx1 := (mk i g h hg hh).mp hx.1
    have hA3 : A ≤ 1000000000000 := by
      by_cases z : A ≤ 1000000000000
      · exact z
      · rw [hA2, if_neg z] at hx1; omega
    have iL := nI_lv e1 hAt.2.2 e4
    have cA : w.2 33 ((x1 * 13 + w.1 5 14) * 13 + x4).toNatClampNeg = lN A := by rw [i_c iL (by omega)]; exact eA
    have is1 := nI_st e1 (b := 1) (p := 1) rfl e4
    have c19 : w.1 19 ((x1 * 3 + 1) * 13 + x4).toNatClampNeg = w.1 19 (39 * c + 13 * 1 + i) := by rw [i_c is1 (by omega)]
    have hX : ∀ g' h', g' < 13 → h' < 13 → (bPT (cBD w N M) n d f (169 * i + 13 * g' + h') ↔ bt (w.1 19 ((x1 * 3 + 1) * 13 + x4).toNatClampNeg) g' = true ∧ bt (w.1 19 (39 * c + 13 * 2 + h')) f = true ∧ ∃ B, w.2 33 (169 * (l + 1) + 13 * g' + h') = lN B ∧ A + B + 2 = V) := fun g' h' hg' hh' => by
      rw [mk i g' h' hg' hh', cD_F hc (by omega) hg', cD_F hc hh' hf, c19, hA2, if_pos hA3]
      obtain ⟨B, eB, hB, hB2⟩ := cD_L (M := M) hT.2.2.2.2.2.1 hl hg' hh'
      rw [hB2]
      constructor
      · rintro ⟨t1, t2, t3⟩
        refine ⟨t1, t2, B, eB, ?_⟩
        split at t3 <;> omega
      · rintro ⟨t1, t2, B', eB', t3⟩
        have : B = B' := by
          rw [eB] at eB'
          exact (lL_eq (by omega) (by omega)).mp eB'
        subst this
        exact ⟨t1, t2, by rw [if_pos (by omega)]; exact t3⟩
    refine qq_go_ok S (fun pc => Nat.beq pc 88) 60 ?_
    conv => whnf
    refine br_f (i_nge 13 e4 (by omega) (by omega)) ?_
    conv => whnf
    refine ⟨i_in 10816 iL (by omega) (by decide), ?_⟩
    conv => whnf
    refine br_nt (fun z => ?_) ?_
    · have z : w.2 33 ((x1 * 13 + w.1 5 14) * 13 + x4).toNatClampNeg = 2000000000000 := lcmp0.mp z
      rw [cA] at z
      have := (lL_eq (b := 2000000000000) (by omega) (by omega)).mp z
      omega
    conv => whnf
    refine ⟨i_in 2496 is1 (by omega) (by decide), ?_⟩
    conv => whnf
    refine qq_wk S (tv_88 S (x7 := w.1 19 ((x1 * 3 + 1) * 13 + x4).toNatClampNeg) (y := w.2 33 ((x1 * 13 + w.1 5 14) * 13 + x4).toNatClampNeg) (tv_93 S (X := fun g' h' => bPT (cBD w N M) n d f (169 * i + 13 * g' + h')) eN eM hT hAt.2.1 hf ek hk hc k9 e1 ep hp el hl e4 (by omega) cA (by omega) ev hV hX (fun g' h' hg' hh' hXX hlt => ?_) (fun hno => absurd hx.1 (hno g h hg hh)) 13 0 rfl _ rfl (fun g' h' hg' => absurd hg' (by omega)))) ⟨rfl, rfl, rfl, rfl, rfl, trivial⟩
    have : 169 * i + 13 * g' + h' = 169 * i + 13 * g + h := by
      refine lst_uq ⟨hXX, fun y hy hP => ?_⟩ hx
      by_cases q : y < 169 * i + 13 * g + h
      · exact hx.2 y q hP
      · exact hlt g h hh (by omega) hx.1
    have a1 : g' = g := by omega
    have a2 : h' = h := by omega
    rw [a1, a2, e4]
    exact hq
  | succ r ih =>
    intro i hi x4 e4
    obtain ⟨A, eA, hA, hA2⟩ := cD_L (M := M) hT.2.2.2.2.2.1 hc hd (show i < 13 by omega)
    have iL := nI_lv e1 hAt.2.2 e4
    have cA : w.2 33 ((x1 * 13 + w.1 5 14) * 13 + x4).toNatClampNeg = lN A := by rw [i_c iL (by omega)]; exact eA
    have is1 := nI_st e1 (b := 1) (p := 1) rfl e4
    have c19 : w.1 19 ((x1 * 3 + 1) * 13 + x4).toNatClampNeg = w.1 19 (39 * c + 13 * 1 + i) := by rw [i_c is1 (by omega)]
    have nx := ih (i + 1) (by omega) _ (i_s e4)
    have cu : w.2 33 ((x1 * 13 + w.1 5 14) * 13 + x4).toNatClampNeg = 2000000000000 ↔ A = 2000000000000 := by rw [cA]; exact lL_eq (b := 2000000000000) (by omega) (by omega)
    refine qq_go_ok S (fun pc => Nat.beq pc 88) 60 ?_
    conv => whnf
    refine br_f (i_nge 13 e4 (by omega) (by omega)) ?_
    conv => whnf
    refine ⟨i_in 10816 iL (by omega) (by decide), ?_⟩
    conv => whnf
    refine ⟨fun z => ?_, fun z => ?_⟩
    · have hA3 : A ≤ 1000000000000 := by
        rcases hA with y | y
        · exact y
        · exact absurd (lcmp0.mpr (cu.mpr y)) z
      have hX : ∀ g' h', g' < 13 → h' < 13 → (bPT (cBD w N M) n d f (169 * i + 13 * g' + h') ↔ bt (w.1 19 ((x1 * 3 + 1) * 13 + x4).toNatClampNeg) g' = true ∧ bt (w.1 19 (39 * c + 13 * 2 + h')) f = true ∧ ∃ B, w.2 33 (169 * (l + 1) + 13 * g' + h') = lN B ∧ A + B + 2 = V) := fun g' h' hg' hh' => by
        rw [mk i g' h' hg' hh', cD_F hc (by omega) hg', cD_F hc hh' hf, c19, hA2, if_pos hA3]
        obtain ⟨B, eB, hB, hB2⟩ := cD_L (M := M) hT.2.2.2.2.2.1 hl hg' hh'
        rw [hB2]
        constructor
        · rintro ⟨t1, t2, t3⟩
          refine ⟨t1, t2, B, eB, ?_⟩
          split at t3 <;> omega
        · rintro ⟨t1, t2, B', eB', t3⟩
          have : B = B' := by
            rw [eB] at eB'
            exact (lL_eq (by omega) (by omega)).mp eB'
          subst this
          exact ⟨t1, t2, by rw [if_pos (by omega)]; exact t3⟩
      conv => whnf
      refine ⟨i_in 2496 is1 (by omega) (by decide), ?_⟩
      conv => whnf
      exact qq_wk S (tv_88 S (x7 := w.1 19 ((x1 * 3 + 1) * 13 + x4).toNatClampNeg) (y := w.2 33 ((x1 * 13 + w.1 5 14) * 13 + x4).toNatClampNeg) (tv_93 S (X := fun g' h' => bPT (cBD w N M) n d f (169 * i + 13 * g' + h')) eN eM hT hAt.2.1 hf ek hk hc k9 e1 ep hp el hl e4 (by omega) cA (by omega) ev hV hX (fun g' h' hg' hh' hXX hlt => absurd hXX (hx.2 _ (by omega))) (fun hno => nx) 13 0 rfl _ rfl (fun g' h' hg' => absurd hg' (by omega)))) ⟨rfl, rfl, rfl, rfl, rfl, trivial⟩
    · conv => whnf
      exact qq_wk S (tv_88 S (x7 := 0) (y := w.2 33 ((x1 * 13 + w.1 5 14) * 13 + x4).toNatClampNeg) (tv_93 S (X := fun g' h' => False) (V := V) (A := A) eN eM hT hAt.2.1 hf ek hk hc k9 e1 ep hp el hl e4 (by omega) cA (by omega) ev hV (fun g' h' _ _ => ⟨False.elim, fun t => by rw [b_0] at t; exact absurd t.1 (by decide)⟩) (fun g' h' hg' hh' hXX hlt => hXX.elim) (fun hno => nx) 13 0 rfl _ rfl (fun g' h' hg' => absurd hg' (by omega)))) ⟨rfl, rfl, rfl, rfl, rfl, trivial⟩
set_option maxHeartbeats 4000000 in
set_option maxRecDepth 100000 in
theorem bd_X6_goBackToLeave : ∀ As w P K, qq_Sat ww_sh ww_ro cs_X6_goBackToLeave (qq_at 142 kd_X6_goBackToLeave) (some .int) P K → T_X6_goBackToLeave As w P → K 0 (lv_args 0 As) [] w := by
  intro As w P K S h
  unfold T_X6_goBackToLeave at h
  split at h
  · skip
    obtain ⟨n, f, d, k, c, e, g, h, l, ⟨hT, hAt, hn, hf, hd, ek, hk, k10, ePa, eLe, hV, he, hg, hh, hx⟩, hq⟩ := h
    have hN := hT.1.2.1
    have hM8 := hT.2.2.2.1
    obtain ⟨c', hc, e9, k9⟩ := hT.2.2.2.2.2.2.2.2.1 n hn k10
    have ePa' : bPa (cBD w (qn (w.1 1 10)) (qn (w.1 1 9))) n = c' := by
      show (if n < qn (w.1 1 10) ∧ cX w n 1 = 10 then qn (cX w n 9) else 0) = c'
      rw [if_pos ⟨hn, k10⟩, e9]
      exact qn_nI (by omega)
    have : c = c' := ePa.symm.trans ePa'
    subst this
    obtain ⟨p, r, l', q1, q2, q3, q4, q5, q6, -⟩ := hT.1.2.2.1 c hc k9
    have hpM : p < qn (w.1 1 9) := by
      have := hT.2.2.1.2 c hc k9
      rw [q4, qn_nI (by omega)] at this
      exact this
    have eLe' : bLe (cBD w (qn (w.1 1 10)) (qn (w.1 1 9))) (bCa (cBD w (qn (w.1 1 10)) (qn (w.1 1 9))) c) = l' + 1 := by
      have e1 : bCa (cBD w (qn (w.1 1 10)) (qn (w.1 1 9))) c = p := by
        show (if c < qn (w.1 1 10) ∧ cX w c 1 = 9 then qn (cX w c 5) else 0) = p
        rw [if_pos ⟨hc, k9⟩, q4]
        exact qn_nI (by omega)
      rw [e1]
      show (if p < qn (w.1 1 9) then qn (w.1 12 p) + 1 else 0) = l' + 1
      rw [if_pos hpM, q6, qn_nI (by omega)]
    have : l = l' + 1 := eLe.symm.trans eLe'
    subst this
    obtain ⟨A, eA, hA1, hA2⟩ := cD_L (M := qn (w.1 1 9)) hT.2.2.2.2.2.1 hn hd hf
    have hV' : bL (cBD w (qn (w.1 1 10)) (qn (w.1 1 9))) n d f < 300 := hV
    have hA3 : bL (cBD w (qn (w.1 1 10)) (qn (w.1 1 9))) n d f = A := by
      rw [hA2] at hV' ⊢
      split at hV' <;> rename_i z
      · rw [if_pos z]
      · omega
    have i9 := nI_ml hAt.1 (x := 9) (i := 9) rfl (nI_lit 10)
    have c9 : w.1 13 (w.1 5 12 * 10 + 9).toNatClampNeg = nI c := by rw [i_c i9 (by omega)]; exact e9
    have iL := nI_lv hAt.1 hAt.2.2 hAt.2.1
    have cA : w.2 33 ((w.1 5 12 * 13 + w.1 5 14) * 13 + w.1 5 13).toNatClampNeg = lN A := by rw [i_c iL (by omega)]; exact eA
    have ev : w.2 33 ((w.1 5 12 * 13 + w.1 5 14) * 13 + w.1 5 13).toNatClampNeg - 2 + 2 = lN A := by rw [cA]; exact Int64.sub_add_cancel _ _
    refine qq_go_ok S (fun pc => Nat.beq pc 41) 60 ?_
    conv => whnf
    refine ⟨i_in 640 i9 (by omega) (by decide), ?_⟩
    conv => whnf
    refine ⟨i_in 10816 iL (by omega) (by decide), ?_⟩
    conv => whnf
    exact qq_wk S (tv_41 S (x1 := w.1 13 (w.1 5 12 * 10 + 9).toNatClampNeg) (v := w.2 33 ((w.1 5 12 * 13 + w.1 5 14) * 13 + w.1 5 13).toNatClampNeg - 2) (V := A) rfl rfl hT hAt hn hf hd ek hk hc k9 c9 q4 q1 q6 q3 ev (by omega) hA3 ePa eLe he hg hh hx (by rw [c9]; exact hq) e 0 (Nat.zero_add _) _ rfl) ⟨rfl, rfl, rfl, rfl, trivial⟩
  · exact h.elim
theorem ha_X6_goBackToLeave : ∀ As w P, T_X6_goBackToLeave As w P → qq_wd As ≤ 9 := by
  intro As w P h
  unfold T_X6_goBackToLeave at h
  split at h
  · exact Nat.le_of_ble_eq_true rfl
  · exact h.elim
theorem hv_X6_goBackToLeave : ∀ As w P, T_X6_goBackToLeave As w P → ∃ (k : Nat) (r : List Value) (fs : List Nat), As = .ref k :: r ∧ ww_sh[k]? = some (.inr (6, fs)) := by
  intro As w P h
  unfold T_X6_goBackToLeave at h
  split at h
  · exact ⟨_, _, _, rfl, rfl⟩
  · exact h.elim
set_option maxRecDepth 100000 in
theorem M_X6_goBackToLeave (l : Launch) : qq_M l ww_T ww_N vwCl ww_sh ww_ro ww_zs yX6_goBackToLeave cX6_goBackToLeave 9 (some .int) (ww_rm 2) T_X6_goBackToLeave := by
  refine qq_mk (host := RX7) (is := ki_X6_goBackToLeave) (cs := cs_X6_goBackToLeave) (by decide) ww_k1 wl_X6 ww_so ww_so2 kc_X6_goBackToLeave kv_X6_goBackToLeave kg_X6_goBackToLeave ?_ ha_X6_goBackToLeave bd_X6_goBackToLeave
  intro k i q hi hq
  match k, hi, hq with
  | 0, hi, hq => cases hi; cases hq; exact fun p e s m args below meth c D tys tC ad Q pc X hdg => qq_cV (ci := 3) X ww_gd (M_X3_of l) kf_X3_of.1 (Or.inl (ww_a4 (i := 71) (w := Cond.methodLink RX6 87 yX3_of) rfl rfl)) kf_X3_of.2.1 kf_X3_of.2.2.1 kf_X3_of.2.2.2 ⟨by decide, by decide, by decide +kernel⟩ rfl rfl rfl ⟨by decide, by decide⟩ ⟨Nat.le_refl _, Nat.le_refl _⟩ hv_X3_of hdg
  | 1, hi, hq => cases hi; cases hq; exact fun p e s m args below meth c D tys tC ad Q pc X hdg => qq_cV (ci := 2) X ww_gd (M_X2_level l) kf_X2_level.1 (Or.inl (ww_a4 (i := 97) (w := Cond.methodLink RX6 136 yX2_level) rfl rfl)) kf_X2_level.2.1 kf_X2_level.2.2.1 kf_X2_level.2.2.2 ⟨by decide, by decide, by decide +kernel⟩ rfl rfl rfl ⟨by decide, by decide⟩ ⟨Nat.le_refl _, Nat.le_refl _⟩ hv_X2_level hdg
  | 2, hi, hq => cases hi; cases hq; exact fun p e s m args below meth c D tys tC ad Q pc X hdg => qq_cV (ci := 5) X ww_gd (M_X5_step l) kf_X5_step.1 (Or.inl (ww_a4 (i := 83) (w := Cond.methodLink RX6 122 yX5_step) rfl rfl)) kf_X5_step.2.1 kf_X5_step.2.2.1 kf_X5_step.2.2.2 ⟨by decide, by decide, by decide +kernel⟩ rfl rfl rfl ⟨by decide, by decide⟩ ⟨Nat.le_refl _, Nat.le_refl _⟩ hv_X5_step hdg
  | 3, hi, hq => cases hi; cases hq; exact fun p e s m args below meth c D tys tC ad Q pc X hdg => qq_cS X ww_gd (M_X7_has l) kf_X7_has.1 (Or.inr ⟨RX7, ww_n4 (i := 84) (w := Cond.methodLinkNest RX6 126 yX7_has RX7) rfl rfl⟩) kf_X7_has.2.1 kf_X7_has.2.2 ⟨by decide, by decide, by decide +kernel⟩ rfl rfl ⟨by decide, by decide⟩ ⟨Nat.le_refl _, Nat.le_refl _⟩ hdg
  | 4, hi, hq => cases hi; cases hq; exact fun p e s m args below meth c D tys tC ad Q pc X hdg => qq_cV (ci := 6) X ww_gd (M_X6_goBackInto l) kf_X6_goBackInto.1 (Or.inl (ww_a4 (i := 107) (w := Cond.methodLink RX6 141 yX6_goBackInto) rfl rfl)) kf_X6_goBackInto.2.1 kf_X6_goBackInto.2.2.1 kf_X6_goBackInto.2.2.2 ⟨by decide, by decide, by decide +kernel⟩ rfl rfl rfl ⟨by decide, by decide⟩ ⟨Nat.le_refl _, Nat.le_refl _⟩ hv_X6_goBackInto hdg
  | n + 5, hi, hq => simp [cs_X6_goBackToLeave] at hq
