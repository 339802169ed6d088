abbrev cs_X6_goBackToCall : List (Nat × qq_t) := [(3, T_X3_of), (3, T_X5_isBeginning), (3, T_X2_entry), (3, T_X3_isCallOf), (3, T_X2_whole), (4, T_X5_step), (2, T_X7_has), (3, T_X6_moveOutside)]
def T_X6_goBackToCall : qq_t := fun As w P => match As with
  | [.ref 5] => ∃ n f p, (cTp w (qn (w.1 1 10)) (qn (w.1 1 9)) ∧ w.1 5 12 = nI n ∧ w.1 5 13 = nI f ∧ n < qn (w.1 1 10) ∧ f < 13 ∧ p < qn (w.1 1 9) ∧ cX w n 0 = nI p ∧ w.1 12 p = nI n ∧ bW (cD w) n f < 300) ∧ (((bOw (cD w) n = 0 ∧ bBg (cD w) f) ∧ P (some (.int 0)) w) ∨ (¬ (bOw (cD w) n = 0 ∧ bBg (cD w) f) ∧ ∃ n' f' d', f' < 13 ∧ lst (bPC (cD w) n f) (13 * n' + f') ∧ bOut (cD w) n' f' d' ∧ P (some (.int 3)) (qq_ui (cMove w (nI n') (nI f')) 5 14 (nI d'))))
  | _ => False
theorem tc_75 {P : Option Value → qq_w → Prop} {K : Nat → qq_L → List Value → qq_w → Prop} (S : qq_Sat ww_sh ww_ro cs_X6_goBackToCall (qq_at 149 kd_X6_goBackToCall) (some .int) P K) {w : qq_w} {x1 x4 x5 x6 : Int32} {v : Int64} {n f p N M V c e : Nat} (eN : qn (w.1 1 10) = N) (eM : qn (w.1 1 9) = M) (hT : cTp w N M) (e13 : w.1 5 13 = nI f) (hf : f < 13) (eOw : bOw (cBD w N M) n = p) (eV : bW (cBD w N M) n f = V) (hV : V < 300) (ev : v + 1 = lN V) (e4 : x4 = nI c) (hc : c < N) (h5 : (x5 = 1 ∧ cX w c 1 = 9 ∧ cX w c 5 = nI p) ∨ (x5 = 0 ∧ ¬ (cX w c 1 = 9 ∧ cX w c 5 = nI p))) (hp8 : p < 8) (e6 : x6 = nI e) (he : e < 13)
    (hy : bPC (cBD w N M) n f (13 * c + e) → ∃ d', bOut (cBD w N M) c e d' ∧ P (some (.int 3)) (qq_ui (cMove w x4 x6) 5 14 (nI d')))
    (hn1 : ¬ bPC (cBD w N M) n f (13 * c + e) → K 75 [(0, .ref 5), (1, .int x1), (2, .long v), (4, .int x4), (5, .int x5), (6, .int (x6 + 1))] [] w)
    (hn2 : x5 = 0 → K 48 [(0, .ref 5), (1, .int x1), (2, .long v), (4, .int (x4 + 1))] [] w) :
    K 75 [(0, .ref 5), (1, .int x1), (2, .long v), (4, .int x4), (5, .int x5), (6, .int x6)] [] w := by
  have hN := hT.1.2.1
  have hM8 := hT.2.2.2.1
  obtain ⟨C, eC, hC, hC2⟩ := cD_W (M := M) hT.2.2.2.2.2.2.1 hc he
  have iW : x4 * 13 + x6 = nI (13 * c + e) := nI_ml e4 e6 (nI_lit 13)
  have cC : w.2 24 (x4 * 13 + x6).toNatClampNeg = lN C := by rw [i_c iW (by omega)]; exact eC
  have cv : w.2 24 (x4 * 13 + x6).toNatClampNeg = v ↔ bW (cBD w N M) c e + 1 = V := by
    have : w.2 24 (x4 * 13 + x6).toNatClampNeg = v ↔ lN C + 1 = v + 1 := by
      rw [cC]
      exact ⟨fun t => by rw [t], fun t => (Int64.add_left_inj _).mp t⟩
    rw [this, ev, lN_1, lL_eq (by omega) (by omega), hC2]
    split <;> omega
  have is1 := nI_st e4 (b := 1) (p := 1) rfl e6
  have c19 : w.1 19 ((x4 * 3 + 1) * 13 + x6).toNatClampNeg = w.1 19 (39 * c + 13 * 1 + e) := by rw [i_c is1 (by omega)]
  have hbit : (w.1 19 ((x4 * 3 + 1) * 13 + x6).toNatClampNeg >>> (w.1 5 13 &&& 31)) &&& 1 = 0 ↔ ¬ bF (cBD w N M) c 1 e f := by
    rw [ck_bit e13 hf, c19, cD_F hc he hf]
    simp
  have mk : bPC (cBD w N M) n f (13 * c + e) ↔ (cX w c 1 = 9 ∧ cX w c 5 = nI p) ∧ bW (cBD w N M) c e + 1 = V ∧ bF (cBD w N M) c 1 e f := by
    unfold bPC
    rw [show (13 * c + e) / 13 = c by omega, show (13 * c + e) % 13 = e by omega, cD_K hc, eOw, eV]
    constructor
    · rintro ⟨z1, z2, z3, z4⟩
      have z2 : (if c < N ∧ cX w c 1 = 9 then qn (cX w c 5) else 0) = p := z2
      rw [if_pos ⟨hc, z1⟩] at z2
      obtain ⟨p', r, l, q1, q2, q3, q4, -⟩ := hT.1.2.2.1 c hc z1
      rw [q4, qn_nI (by omega)] at z2
      exact ⟨⟨z1, by rw [q4, z2]⟩, z3, z4⟩
    · rintro ⟨⟨z1, z2⟩, z3, z4⟩
      refine ⟨z1, ?_, z3, z4⟩
      show (if c < N ∧ cX w c 1 = 9 then qn (cX w c 5) else 0) = p
      rw [if_pos ⟨hc, z1⟩, z2]
      exact qn_nI (by omega)
  refine qq_go_ok S (fun pc => Nat.beq pc 75 || Nat.beq pc 48) 60 ?_
  conv => whnf
  refine br_f (i_nge 13 e6 (by omega) (by omega)) ?_
  conv => whnf
  refine ⟨fun z => ?_, fun z => ?_⟩
  · conv => whnf
    exact qq_wk S (hn2 z) ⟨rfl, rfl, rfl, rfl, trivial⟩
  · have h5' : cX w c 1 = 9 ∧ cX w c 5 = nI p := by
      rcases h5 with ⟨-, y⟩ | ⟨y, -⟩
      · exact y
      · exact absurd y z
    conv => whnf
    refine ⟨i_in 832 iW (by omega) (by decide), ?_⟩
    conv => whnf
    refine ⟨fun z => ?_, fun z => ?_⟩
    · conv => whnf
      exact qq_wk S (hn1 fun y => z (lcmp0.mpr (cv.mpr (mk.mp y).2.1))) ⟨rfl, rfl, rfl, rfl, rfl, rfl, trivial⟩
    · have z := cv.mp (lcmp0.mp z)
      conv => whnf
      refine ⟨i_in 2496 is1 (by omega) (by decide), ?_⟩
      conv => whnf
      refine ⟨fun z2 => ?_, fun z2 => ?_⟩
      · conv => whnf
        refine br_t rfl ?_
        conv => whnf
        exact qq_wk S (hn1 fun y => hbit.mp z2 (mk.mp y).2.2) ⟨rfl, rfl, rfl, rfl, rfl, rfl, trivial⟩
      · have z2 : bF (cBD w N M) c 1 e f := Classical.byContradiction fun y => z2 (hbit.mpr y)
        obtain ⟨d', ho, hP⟩ := hy (mk.mpr ⟨h5', z, z2⟩)
        have q4 : qn x4 = c := by rw [e4]; exact qn_nI (by omega)
        have q6 : qn x6 = e := by rw [e6]; exact qn_nI (by omega)
        conv => whnf
        refine br_f (by decide) ?_
        conv => whnf
        refine ⟨d', ⟨by rw [eN, eM]; exact hT, i_in 64 e4 (by omega) (by decide), by rw [eN, q4]; exact hc, i_in 13 e6 he (by decide), ?_, ?_⟩, ?_⟩
        · show bW (cBD w (qn (w.1 1 10)) (qn (w.1 1 9))) (qn x4) (qn x6) < 300
          rw [eN, eM, q4, q6]; omega
        · show bOut (cBD w (qn (w.1 1 10)) (qn (w.1 1 9))) (qn x4) (qn x6) d'
          rw [eN, eM, q4, q6]; exact ho
        · conv => whnf
          exact hP
theorem tc_48 {P : Option Value → qq_w → Prop} {K : Nat → qq_L → List Value → qq_w → Prop} (S : qq_Sat ww_sh ww_ro cs_X6_goBackToCall (qq_at 149 kd_X6_goBackToCall) (some .int) P K) {w : qq_w} {x1 : Int32} {v : Int64} {n f p N M V m g0 d' : Nat} (eN : qn (w.1 1 10) = N) (eM : qn (w.1 1 9) = M) (hT : cTp w N M) (e1 : x1 = nI p) (hp8 : p < 8) (e13 : w.1 5 13 = nI f) (hf : f < 13) (eOw : bOw (cBD w N M) n = p) (eV : bW (cBD w N M) n f = V) (hV : V < 300) (ev : v + 1 = lN V) (hg0 : g0 < 13) (hx : lst (bPC (cBD w N M) n f) (13 * m + g0)) (ho : bOut (cBD w N M) m g0 d') (hq : P (some (.int 3)) (qq_ui (cMove w (nI m) (nI g0)) 5 14 (nI d'))) :
    ∀ r i, i + r = m → ∀ x4 : Int32, x4 = nI i → K 48 [(0, .ref 5), (1, .int x1), (2, .long v), (4, .int x4)] [] w := by
  have hN := hT.1.2.1
  have hx1 := hx.1
  unfold bPC at hx1
  rw [show (13 * m + g0) / 13 = m by omega, show (13 * m + g0) % 13 = g0 by omega] at hx1
  have hm : m < N := hx1.2.2.2.1
  intro r
  induction r with
  | zero =>
    intro i hi x4 e4
    have : i = m := by omega
    subst this
    have inner : ∀ x5 : Int32, ((x5 = 1 ∧ cX w i 1 = 9 ∧ cX w i 5 = nI p) ∨ (x5 = 0 ∧ ¬ (cX w i 1 = 9 ∧ cX w i 5 = nI p))) → ¬ x5 = 0 → ∀ r' j, j + r' = g0 → ∀ x6 : Int32, x6 = nI j → K 75 [(0, .ref 5), (1, .int x1), (2, .long v), (4, .int x4), (5, .int x5), (6, .int x6)] [] w := by
      intro x5 h5 h50 r'
      induction r' with
      | zero =>
        intro j hj x6 e6
        have : j = g0 := by omega
        subst this
        exact tc_75 S eN eM hT e13 hf eOw eV hV ev e4 hm h5 hp8 e6 hg0 (fun _ => ⟨d', ho, by rw [e4, e6]; exact hq⟩) (fun z => absurd hx.1 z) (fun z => absurd z h50)
      | succ r' ih' =>
        intro j hj x6 e6
        exact tc_75 S eN eM hT e13 hf eOw eV hV ev e4 hm h5 hp8 e6 (by omega) (fun z => absurd z (hx.2 _ (by omega))) (fun _ => ih' (j + 1) (by omega) _ (i_s e6)) (fun z => absurd z h50)
    have k9 : cX w i 1 = 9 := by
      have := hx1.1
      rw [cD_K hm] at this
      exact this
    have k5 : cX w i 5 = nI p := by
      have z2 : (if i < N ∧ cX w i 1 = 9 then qn (cX w i 5) else 0) = bOw (cBD w N M) n := hx1.2.1
      rw [if_pos ⟨hm, k9⟩, eOw] at z2
      obtain ⟨p', r, l, q1, q2, q3, q4, -⟩ := hT.1.2.2.1 i hm k9
      rw [q4, qn_nI (by omega)] at z2
      rw [q4, z2]
    have i1 := nI_ml e4 (x := 1) (i := 1) rfl (nI_lit 10)
    have i5 := nI_ml e4 (x := 5) (i := 5) rfl (nI_lit 10)
    have c1 : w.1 13 (x4 * 10 + 1).toNatClampNeg = 9 := by rw [i_c i1 (by omega)]; exact k9
    have c5 : w.1 13 (x4 * 10 + 5).toNatClampNeg = x1 := by rw [i_c i5 (by omega), e1]; exact k5
    refine qq_go_ok S (fun pc => Nat.beq pc 75) 60 ?_
    conv => whnf
    refine br_f (i_lt' e4 hT.1.1 (by omega) (by omega)) ?_
    conv => whnf
    refine ⟨i_in 640 i1 (by omega) (by decide), ?_⟩
    conv => whnf
    refine br_nf c1 ?_
    conv => whnf
    refine ⟨i_in 640 i5 (by omega) (by decide), ?_⟩
    conv => whnf
    refine br_nf c5 ?_
    conv => whnf
    exact qq_wk S (inner 1 (Or.inl ⟨rfl, k9, k5⟩) (by decide) g0 0 (Nat.zero_add _) _ rfl) ⟨rfl, rfl, rfl, rfl, rfl, rfl, trivial⟩
  | succ r ih =>
    intro i hi x4 e4
    have hiN : i < N := by omega
    have nx := ih (i + 1) (by omega) _ (i_s e4)
    have inner : ∀ x5 : Int32, ((x5 = 1 ∧ cX w i 1 = 9 ∧ cX w i 5 = nI p) ∨ (x5 = 0 ∧ ¬ (cX w i 1 = 9 ∧ cX w i 5 = nI p))) → ∀ r' j, j + r' = 13 → ∀ x6 : Int32, x6 = nI j → K 75 [(0, .ref 5), (1, .int x1), (2, .long v), (4, .int x4), (5, .int x5), (6, .int x6)] [] w := by
      intro x5 h5 r'
      induction r' with
      | zero =>
        intro j hj x6 e6
        refine qq_go_ok S (fun pc => Nat.beq pc 75 || Nat.beq pc 48) 60 ?_
        conv => whnf
        refine br_t (i_ge 13 e6 (by omega) (by omega)) ?_
        conv => whnf
        exact qq_wk S nx ⟨rfl, rfl, rfl, rfl, trivial⟩
      | succ r' ih' =>
        intro j hj x6 e6
        exact tc_75 S eN eM hT e13 hf eOw eV hV ev e4 hiN h5 hp8 e6 (by omega) (fun z => absurd z (hx.2 _ (by omega))) (fun _ => ih' (j + 1) (by omega) _ (i_s e6)) (fun _ => nx)
    have i1 := nI_ml e4 (x := 1) (i := 1) rfl (nI_lit 10)
    have i5 := nI_ml e4 (x := 5) (i := 5) rfl (nI_lit 10)
    have c1 : w.1 13 (x4 * 10 + 1).toNatClampNeg = cX w i 1 := by rw [i_c i1 (by omega)]
    have c5 : w.1 13 (x4 * 10 + 5).toNatClampNeg = cX w i 5 := by rw [i_c i5 (by omega)]
    refine qq_go_ok S (fun pc => Nat.beq pc 75) 60 ?_
    conv => whnf
    refine br_f (i_lt' e4 hT.1.1 (by omega) (by omega)) ?_
    conv => whnf
    refine ⟨i_in 640 i1 (by omega) (by decide), ?_⟩
    conv => whnf
    refine ⟨fun z => ?_, fun z => ?_⟩
    · have z : ¬ w.1 13 (x4 * 10 + 1).toNatClampNeg = 9 := z
      rw [c1] at z
      conv => whnf
      exact qq_wk S (inner 0 (Or.inr ⟨rfl, fun y => z y.1⟩) 13 0 rfl _ rfl) ⟨rfl, rfl, rfl, rfl, rfl, rfl, trivial⟩
    · have z : w.1 13 (x4 * 10 + 1).toNatClampNeg = 9 := z
      rw [c1] at z
      conv => whnf
      refine ⟨i_in 640 i5 (by omega) (by decide), ?_⟩
      conv => whnf
      refine ⟨fun z2 => ?_, fun z2 => ?_⟩
      · have z2 : ¬ w.1 13 (x4 * 10 + 5).toNatClampNeg = x1 := z2
        rw [c5, e1] at z2
        conv => whnf
        exact qq_wk S (inner 0 (Or.inr ⟨rfl, fun y => z2 y.2⟩) 13 0 rfl _ rfl) ⟨rfl, rfl, rfl, rfl, rfl, rfl, trivial⟩
      · have z2 : w.1 13 (x4 * 10 + 5).toNatClampNeg = x1 := z2
        rw [c5, e1] at z2
        conv => whnf
        exact qq_wk S (inner 1 (Or.inl ⟨rfl, z, z2⟩) 13 0 rfl _ rfl) ⟨rfl, rfl, rfl, rfl, rfl, rfl, trivial⟩
set_option maxHeartbeats 4000000 in
set_option maxRecDepth 100000 in
theorem bd_X6_goBackToCall : ∀ As w P K, qq_Sat ww_sh ww_ro cs_X6_goBackToCall (qq_at 149 kd_X6_goBackToCall) (some .int) P K → T_X6_goBackToCall As w P → K 0 (lv_args 0 As) [] w := by
  intro As w P K S h
  unfold T_X6_goBackToCall at h
  split at h
  · skip
    obtain ⟨n, f, p, ⟨hT, e12, e13, hn, hf, hp, eo, en, hW⟩, hq⟩ := h
    have hN := hT.1.2.1
    have hM8 := hT.2.2.2.1
    have i0 := nI_ml e12 (x := 0) (i := 0) rfl (nI_lit 10)
    have c0 : w.1 13 (w.1 5 12 * 10 + 0).toNatClampNeg = nI p := by rw [i_c i0 (by omega)]; exact eo
    have q13 : qn (w.1 5 13) = f := by rw [e13]; exact qn_nI (by omega)
    have eOw : bOw (cBD w (qn (w.1 1 10)) (qn (w.1 1 9))) n = p := by
      show (if n < qn (w.1 1 10) then qn (cX w n 0) else 0) = p
      rw [if_pos hn, eo]
      exact qn_nI (by omega)
    have hbeg : (w.1 13 (w.1 5 12 * 10 + 0).toNatClampNeg = 0 ∧ bt (cBegin w) (qn (w.1 5 13)) = true) ↔ (bOw (cD w) n = 0 ∧ bBg (cD w) f) := by
      rw [c0, q13]
      show _ ↔ bOw (cBD w (qn (w.1 1 10)) (qn (w.1 1 9))) n = 0 ∧ (f < 13 ∧ bt (cBegin w) f = true)
      rw [eOw]
      have : nI p = 0 ↔ p = 0 := nI_eq (b := 0) (by omega) (by omega)
      rw [this]
      exact ⟨fun t => ⟨t.1, hf, t.2⟩, fun t => ⟨t.1, t.2.2⟩⟩
    refine qq_go_ok S (fun pc => Nat.beq pc 48) 60 ?_
    conv => whnf
    refine ⟨i_in 640 i0 (by omega) (by decide), ?_⟩
    conv => whnf
    refine ⟨i_in 13 e13 hf (by decide), fun z => ?_, fun z => ?_⟩
    · have z := hbeg.mp z
      conv => whnf
      refine br_f (by decide) ?_
      conv => whnf
      rcases hq with ⟨-, y⟩ | ⟨y, -⟩
      · exact y
      · exact absurd z y
    · have z : ¬ (bOw (cD w) n = 0 ∧ bBg (cD w) f) := fun y => z (hbeg.mpr y)
      obtain ⟨n', f', d', hf', hx, ho, hP⟩ : ∃ n' f' d', f' < 13 ∧ lst (bPC (cD w) n f) (13 * n' + f') ∧ bOut (cD w) n' f' d' ∧ P (some (.int 3)) (qq_ui (cMove w (nI n') (nI f')) 5 14 (nI d')) := by
        rcases hq with ⟨y, -⟩ | ⟨-, y⟩
        · exact absurd y z
        · exact y
      have iE : w.1 13 (w.1 5 12 * 10 + 0).toNatClampNeg * 13 + w.1 5 13 = nI (13 * p + f) := nI_ml c0 e13 (nI_lit 13)
      obtain ⟨E, eE, hE⟩ := hT.2.2.2.2.2.2.2.1 (13 * p + f) (by omega)
      have cE : w.2 22 (w.1 13 (w.1 5 12 * 10 + 0).toNatClampNeg * 13 + w.1 5 13).toNatClampNeg = lN E := by rw [i_c iE (by omega)]; exact eE
      have hlu := hT.2.2.2.2.2.2.2.2.2 p n f hp en hn hf
      have hWl : bW (cBD w (qn (w.1 1 10)) (qn (w.1 1 9))) n f = lu (w.2 24 (13 * n + f)) := by
        show (if n < qn (w.1 1 10) ∧ f < 13 then lu (w.2 24 (13 * n + f)) else 10000000000000) = _
        rw [if_pos ⟨hn, hf⟩]
      have hW' : bW (cBD w (qn (w.1 1 10)) (qn (w.1 1 9))) n f < 300 := hW
      have hE2 : bW (cBD w (qn (w.1 1 10)) (qn (w.1 1 9))) n f = E := by
        rw [hWl, ← hlu, eE] at hW' ⊢
        unfold lu at hW' ⊢
        rw [lq_lN (by omega)] at hW' ⊢
        split at hW' <;> rename_i y
        · rw [if_pos y]
        · omega
      have ev : w.2 22 (w.1 13 (w.1 5 12 * 10 + 0).toNatClampNeg * 13 + w.1 5 13).toNatClampNeg - 1 + 1 = lN E := by rw [cE]; exact Int64.sub_add_cancel _ _
      conv => whnf
      refine br_t rfl ?_
      conv => whnf
      refine ⟨i_in 104 iE (by omega) (by decide), ?_⟩
      conv => whnf
      exact qq_wk S (tc_48 S (x1 := w.1 13 (w.1 5 12 * 10 + 0).toNatClampNeg) (v := w.2 22 (w.1 13 (w.1 5 12 * 10 + 0).toNatClampNeg * 13 + w.1 5 13).toNatClampNeg - 1) (n := n) (V := E) rfl rfl hT c0 (by omega) e13 hf eOw hE2 (by omega) ev hf' hx ho hP n' 0 (Nat.zero_add _) _ rfl) ⟨rfl, rfl, rfl, rfl, trivial⟩
  · exact h.elim
theorem ha_X6_goBackToCall : ∀ As w P, T_X6_goBackToCall As w P → qq_wd As ≤ 7 := by
  intro As w P h
  unfold T_X6_goBackToCall at h
  split at h
  · exact Nat.le_of_ble_eq_true rfl
  · exact h.elim
theorem hv_X6_goBackToCall : ∀ As w P, T_X6_goBackToCall As w P → ∃ (k : Nat) (r : List Value) (fs : List Nat), As = .ref k :: r ∧ ww_sh[k]? = some (.inr (6, fs)) := by
  intro As w P h
  unfold T_X6_goBackToCall at h
  split at h
  · exact ⟨_, _, _, rfl, rfl⟩
  · exact h.elim
set_option maxRecDepth 100000 in
theorem M_X6_goBackToCall (l : Launch) : qq_M l ww_T ww_N vwCl ww_sh ww_ro ww_zs yX6_goBackToCall cX6_goBackToCall 7 (some .int) (ww_rm 4) T_X6_goBackToCall := by
  refine qq_mk (host := RX7) (is := ki_X6_goBackToCall) (cs := cs_X6_goBackToCall) (by decide) ww_k1 wl_X6 ww_so ww_so2 kc_X6_goBackToCall kv_X6_goBackToCall kg_X6_goBackToCall ?_ ha_X6_goBackToCall bd_X6_goBackToCall
  intro k i q hi hq
  match k, hi, hq with
  | 0, hi, hq => cases hi; cases hq; exact fun p e s m args below meth c D tys tC ad Q pc X hdg => qq_cV (ci := 3) X ww_gd (M_X3_of l) kf_X3_of.1 (Or.inl (ww_a4 (i := 71) (w := Cond.methodLink RX6 87 yX3_of) rfl rfl)) kf_X3_of.2.1 kf_X3_of.2.2.1 kf_X3_of.2.2.2 ⟨by decide, by decide, by decide +kernel⟩ rfl rfl rfl ⟨by decide, by decide⟩ ⟨Nat.le_refl _, Nat.le_refl _⟩ hv_X3_of hdg
  | 1, hi, hq => cases hi; cases hq; exact fun p e s m args below meth c D tys tC ad Q pc X hdg => qq_cV (ci := 5) X ww_gd (M_X5_isBeginning l) kf_X5_isBeginning.1 (Or.inl (ww_a4 (i := 80) (w := Cond.methodLink RX6 109 yX5_isBeginning) rfl rfl)) kf_X5_isBeginning.2.1 kf_X5_isBeginning.2.2.1 kf_X5_isBeginning.2.2.2 ⟨by decide, by decide, by decide +kernel⟩ rfl rfl rfl ⟨by decide, by decide⟩ ⟨Nat.le_refl _, Nat.le_refl _⟩ hv_X5_isBeginning hdg
  | 2, hi, hq => cases hi; cases hq; exact fun p e s m args below meth c D tys tC ad Q pc X hdg => qq_cV (ci := 2) X ww_gd (M_X2_entry l) kf_X2_entry.1 (Or.inl (ww_a4 (i := 81) (w := Cond.methodLink RX6 115 yX2_entry) rfl rfl)) kf_X2_entry.2.1 kf_X2_entry.2.2.1 kf_X2_entry.2.2.2 ⟨by decide, by decide, by decide +kernel⟩ rfl rfl rfl ⟨by decide, by decide⟩ ⟨Nat.le_refl _, Nat.le_refl _⟩ hv_X2_entry hdg
  | 3, hi, hq => cases hi; cases hq; exact fun p e s m args below meth c D tys tC ad Q pc X hdg => qq_cV (ci := 3) X ww_gd (M_X3_isCallOf l) kf_X3_isCallOf.1 (Or.inl (ww_a4 (i := 82) (w := Cond.methodLink RX6 119 yX3_isCallOf) rfl rfl)) kf_X3_isCallOf.2.1 kf_X3_isCallOf.2.2.1 kf_X3_isCallOf.2.2.2 ⟨by decide, by decide, by decide +kernel⟩ rfl rfl rfl ⟨by decide, by decide⟩ ⟨Nat.le_refl _, Nat.le_refl _⟩ hv_X3_isCallOf hdg
  | 4, hi, hq => cases hi; cases hq; exact fun p e s m args below meth c D tys tC ad Q pc X hdg => qq_cV (ci := 2) X ww_gd (M_X2_whole l) kf_X2_whole.1 (Or.inl (ww_a4 (i := 56) (w := Cond.methodLink RX6 45 yX2_whole) rfl rfl)) kf_X2_whole.2.1 kf_X2_whole.2.2.1 kf_X2_whole.2.2.2 ⟨by decide, by decide, by decide +kernel⟩ rfl rfl rfl ⟨by decide, by decide⟩ ⟨Nat.le_refl _, Nat.le_refl _⟩ hv_X2_whole hdg
  | 5, hi, hq => cases hi; cases hq; exact fun p e s m args below meth c D tys tC ad Q pc X hdg => qq_cV (ci := 5) X ww_gd (M_X5_step l) kf_X5_step.1 (Or.inl (ww_a4 (i := 83) (w := Cond.methodLink RX6 122 yX5_step) rfl rfl)) kf_X5_step.2.1 kf_X5_step.2.2.1 kf_X5_step.2.2.2 ⟨by decide, by decide, by decide +kernel⟩ rfl rfl rfl ⟨by decide, by decide⟩ ⟨Nat.le_refl _, Nat.le_refl _⟩ hv_X5_step hdg
  | 6, hi, hq => cases hi; cases hq; exact fun p e s m args below meth c D tys tC ad Q pc X hdg => qq_cS X ww_gd (M_X7_has l) kf_X7_has.1 (Or.inr ⟨RX7, ww_n4 (i := 84) (w := Cond.methodLinkNest RX6 126 yX7_has RX7) rfl rfl⟩) kf_X7_has.2.1 kf_X7_has.2.2 ⟨by decide, by decide, by decide +kernel⟩ rfl rfl ⟨by decide, by decide⟩ ⟨Nat.le_refl _, Nat.le_refl _⟩ hdg
  | 7, hi, hq => cases hi; cases hq; exact fun p e s m args below meth c D tys tC ad Q pc X hdg => qq_cV (ci := 6) X ww_gd (M_X6_moveOutside l) kf_X6_moveOutside.1 (Or.inl (ww_a4 (i := 57) (w := Cond.methodLink RX6 58 yX6_moveOutside) rfl rfl)) kf_X6_moveOutside.2.1 kf_X6_moveOutside.2.2.1 kf_X6_moveOutside.2.2.2 ⟨by decide, by decide, by decide +kernel⟩ rfl rfl rfl ⟨by decide, by decide⟩ ⟨Nat.le_refl _, Nat.le_refl _⟩ hv_X6_moveOutside hdg
  | n + 8, hi, hq => simp [cs_X6_goBackToCall] at hq
abbrev cs_X6_goBackAcross : List (Nat × qq_t) := [(3, T_X3_of), (2, T_X6_goBackWithin)]
def T_X6_goBackAcross : qq_t := fun As w P => match As with
  | [.ref 5] => qq_go ww_sh ww_ro cs_X6_goBackAcross (qq_at 18 kd_X6_goBackAcross) (some .boolean) (fun _ => false) P qq_no 10 0 (lv_args 0 [.ref 5]) [] w
  | _ => False
theorem bd_X6_goBackAcross : ∀ As w P K, qq_Sat ww_sh ww_ro cs_X6_goBackAcross (qq_at 18 kd_X6_goBackAcross) (some .boolean) P K → T_X6_goBackAcross As w P → K 0 (lv_args 0 As) [] w := by
  intro As w P K S h
  unfold T_X6_goBackAcross at h
  split at h
  · exact qq_go_all S h
  · exact h.elim
theorem ha_X6_goBackAcross : ∀ As w P, T_X6_goBackAcross As w P → qq_wd As ≤ 1 := by
  intro As w P h
  unfold T_X6_goBackAcross at h
  split at h
  · exact Nat.le_of_ble_eq_true rfl
  · exact h.elim
theorem hv_X6_goBackAcross : ∀ As w P, T_X6_goBackAcross As w P → ∃ (k : Nat) (r : List Value) (fs : List Nat), As = .ref k :: r ∧ ww_sh[k]? = some (.inr (6, fs)) := by
  intro As w P h
  unfold T_X6_goBackAcross at h
  split at h
  · exact ⟨_, _, _, rfl, rfl⟩
  · exact h.elim
set_option maxRecDepth 100000 in
theorem M_X6_goBackAcross (l : Launch) : qq_M l ww_T ww_N vwCl ww_sh ww_ro ww_zs yX6_goBackAcross cX6_goBackAcross 1 (some .boolean) (ww_rm 2) T_X6_goBackAcross := by
  refine qq_mk (host := RX7) (is := ki_X6_goBackAcross) (cs := cs_X6_goBackAcross) (by decide) ww_k1 wl_X6 ww_so ww_so2 kc_X6_goBackAcross kv_X6_goBackAcross kg_X6_goBackAcross ?_ ha_X6_goBackAcross bd_X6_goBackAcross
  intro k i q hi hq
  match k, hi, hq with
  | 0, hi, hq => cases hi; cases hq; exact fun p e s m args below meth c D tys tC ad Q pc X hdg => qq_cV (ci := 3) X ww_gd (M_X3_of l) kf_X3_of.1 (Or.inl (ww_a4 (i := 71) (w := Cond.methodLink RX6 87 yX3_of) rfl rfl)) kf_X3_of.2.1 kf_X3_of.2.2.1 kf_X3_of.2.2.2 ⟨by decide, by decide, by decide +kernel⟩ rfl rfl rfl ⟨by decide, by decide⟩ ⟨Nat.le_refl _, Nat.le_refl _⟩ hv_X3_of hdg
  | 1, hi, hq => cases hi; cases hq; exact fun p e s m args below meth c D tys tC ad Q pc X hdg => qq_cV (ci := 6) X ww_gd (M_X6_goBackWithin l) kf_X6_goBackWithin.1 (Or.inl (ww_a4 (i := 93) (w := Cond.methodLink RX6 132 yX6_goBackWithin) rfl rfl)) kf_X6_goBackWithin.2.1 kf_X6_goBackWithin.2.2.1 kf_X6_goBackWithin.2.2.2 ⟨by decide, by decide, by decide +kernel⟩ rfl rfl rfl ⟨by decide, by decide⟩ ⟨Nat.le_refl _, Nat.le_refl _⟩ hv_X6_goBackWithin hdg
  | n + 2, hi, hq => simp [cs_X6_goBackAcross] at hq
abbrev cs_X6_goBack : List (Nat × qq_t) := [(3, T_X3_of), (1, T_X6_goBackToLaidCall), (1, T_X6_goBackToCall), (1, T_X6_goBackAlongEdge), (1, T_X6_goBackAcross), (1, T_X6_goBackToLeave)]
def cStk (w : qq_w) : List (Nat × Nat × Nat) → Prop
  | [] => True
  | (c, g, d) :: st => w.1 29 st.length = nI c ∧ w.1 30 st.length = nI g ∧ w.1 31 st.length = nI d ∧ cStk w st
def cSt (w : qq_w) (n f d : Nat) (st : List (Nat × Nat × Nat)) : Prop := cAt w n f d ∧ w.1 5 11 = nI st.length ∧ cStk w st
/-- only where the track stands has changed -/
def cTg (w w' : qq_w) : Prop := (∀ q, q ∉ [5, 29, 30, 31] → w'.1 q = w.1 q) ∧ (∀ j, j ∉ [11, 12, 13, 14] → w'.1 5 j = w.1 5 j) ∧ w'.2 = w.2
theorem cTg_tf {w w' : qq_w} (h : cTg w w') : cTf w w' := ⟨fun q hq => h.1 q (by simp at hq ⊢; omega), h.2.2⟩
theorem cTg_rf {w : qq_w} : cTg w w := ⟨fun _ _ => rfl, fun _ _ => rfl, rfl⟩
theorem cTg_tr {w w1 w2 : qq_w} (h : cTg w w1) (h2 : cTg w1 w2) : cTg w w2 := ⟨fun q hq => (h2.1 q hq).trans (h.1 q hq), fun j hj => (h2.2.1 j hj).trans (h.2.1 j hj), h2.2.2.trans h.2.2⟩
theorem cTg_5 {w : qq_w} {j : Nat} {x : Int32} (hj : j ∈ [11, 12, 13, 14]) : cTg w (qq_ui w 5 j x) := by
  refine ⟨fun q hq => ?_, fun j' hj' => ?_, rfl⟩
  · simp only [List.mem_cons, List.not_mem_nil, or_false, not_or] at hq
    simp only [qq_ui, va_up, hq, if_false]
  · show upd (w.1 5) j x j' = _
    rw [upd_at, if_neg (fun e : j' = j => hj' (e ▸ hj))]
theorem cTg_k {w : qq_w} {k j : Nat} {x : Int32} (hk : k ∈ [29, 30, 31]) : cTg w (qq_ui w k j x) := by
  have h5 : (5 : Nat) ≠ k := fun e => by subst e; simp at hk
  refine ⟨fun q hq => ?_, fun j' hj' => ?_, rfl⟩
  · have : q ≠ k := fun e => hq (by subst e; simp at hk ⊢; omega)
    simp only [qq_ui, va_up, this, if_false]
  · show va_up w.1 k _ 5 j' = _
    simp only [va_up, h5, if_false]
theorem cStk_eq {w w1 : qq_w} (h1 : w1.1 29 = w.1 29) (h2 : w1.1 30 = w.1 30) (h3 : w1.1 31 = w.1 31) : ∀ st, cStk w st → cStk w1 st
  | [], _ => trivial
  | (c, g, d) :: st, h => ⟨by rw [h1]; exact h.1, by rw [h2]; exact h.2.1, by rw [h3]; exact h.2.2.1, cStk_eq h1 h2 h3 st h.2.2.2⟩
theorem cStk_up {w w1 : qq_w} {k : Nat} (h1 : ∀ j, j < k → w1.1 29 j = w.1 29 j) (h2 : ∀ j, j < k → w1.1 30 j = w.1 30 j) (h3 : ∀ j, j < k → w1.1 31 j = w.1 31 j) : ∀ st : List (Nat × Nat × Nat), st.length ≤ k → cStk w st → cStk w1 st
  | [], _, _ => trivial
  | (c, g, d) :: st, hl, h => by
    have hl : st.length + 1 ≤ k := hl
    exact ⟨by rw [h1 _ (by omega)]; exact h.1, by rw [h2 _ (by omega)]; exact h.2.1, by rw [h3 _ (by omega)]; exact h.2.2.1, cStk_up h1 h2 h3 st (by omega) h.2.2.2⟩
def T_X6_goBack : qq_t := fun As w P => match As with
  | [.ref 5] => ∃ n f d st h n' f' d' st', (cTp w (qn (w.1 1 10)) (qn (w.1 1 9)) ∧ cSt w n f d st ∧ n < qn (w.1 1 10) ∧ f < 13 ∧ d < 13 ∧ (bK (cD w) n = 0 → (∃ p, p < qn (w.1 1 9) ∧ cX w n 0 = nI p ∧ w.1 12 p = nI n) ∧ (st = [] → bW (cD w) n f < 300)) ∧ bL (cD w) n d f < 300 ∧ st.length < 300 ∧ bStp (cD w) n f d st h n' f' d' st') ∧ ∀ w', cTg w w' → cSt w' n' f' d' st' → P (some (.int (nI h))) w'
  | _ => False

set_option maxHeartbeats 4000000 in
set_option maxRecDepth 100000 in
theorem bd_X6_goBack : ∀ As w P K, qq_Sat ww_sh ww_ro cs_X6_goBack (qq_at 63 kd_X6_goBack) (some .int) P K → T_X6_goBack As w P → K 0 (lv_args 0 As) [] w := by
  intro As w P K S h
  unfold T_X6_goBack at h
  split at h
  · skip
    obtain ⟨n, f, d, st, h, n', f', d', st', ⟨hT, ⟨hAt, ek, hstk⟩, hn, hf, hd, hK0, hL, hlen, hs⟩, hq⟩ := h
    have hN := hT.1.2.1
    have hM8 := hT.2.2.2.1
    have i1 := nI_ml hAt.1 (x := 1) (i := 1) rfl (nI_lit 10)
    have c1 : w.1 13 (w.1 5 12 * 10 + 1).toNatClampNeg = bK (cD w) n := by
      rw [i_c i1 (by omega)]
      exact (cD_K hn).symm
    have e010 : ¬ (0 : Int32) = 10 := by decide
    refine qq_go_ok S (fun _ => false) 60 ?_
    conv => whnf
    refine ⟨i_in 640 i1 (by omega) (by decide), ?_⟩
    conv => whnf
    refine ⟨fun z => ?_, fun z => ?_⟩
    · have z : ¬ w.1 13 (w.1 5 12 * 10 + 1).toNatClampNeg = 0 := z
      rw [c1] at z
      conv => whnf
      refine ⟨fun z2 => ?_, fun z2 => ?_⟩
      · have z2 : w.1 13 (w.1 5 12 * 10 + 1).toNatClampNeg = 10 := z2
        rw [c1] at z2
        have k10 : cX w n 1 = 10 := (cD_K (M := qn (w.1 1 9)) hn).symm.trans z2
        obtain ⟨c, hc, e9, k9⟩ := hT.2.2.2.2.2.2.2.2.1 n hn k10
        have ePa : bPa (cD w) n = c := by
          show (if n < qn (w.1 1 10) ∧ cX w n 1 = 10 then qn (cX w n 9) else 0) = c
          rw [if_pos ⟨hn, k10⟩, e9]
          exact qn_nI (by omega)
        have i9 := nI_ml hAt.1 (x := 9) (i := 9) rfl (nI_lit 10)
        have c9 : w.1 13 (w.1 5 12 * 10 + 9).toNatClampNeg = nI c := by rw [i_c i9 (by omega)]; exact e9
        have q9 : qn (w.1 13 (w.1 5 12 * 10 + 9).toNatClampNeg) = c := by rw [c9]; exact qn_nI (by omega)
        conv => whnf
        refine ⟨i_in 640 i9 (by omega) (by decide), ?_⟩
        conv => whnf
        refine ⟨n, f, d, bL (cD w) n d f, ⟨hT, hAt, hn, hf, hd, i_in 64 c9 (by omega) (by decide), ?_, rfl, hL⟩, fun g hg => ?_, fun hno => ?_⟩
        · show qn (w.1 13 (w.1 5 12 * 10 + 9).toNatClampNeg) < _
          rw [q9]; exact hc
        · have hg : lst (fun g => bL (cD w) (qn (w.1 13 (w.1 5 12 * 10 + 9).toNatClampNeg)) d g + 1 = bL (cD w) n d f ∧ bF (cD w) (qn (w.1 13 (w.1 5 12 * 10 + 9).toNatClampNeg)) 0 g f) g := hg
          rw [q9, ← ePa] at hg
          conv => whnf
          refine br_f (by decide) ?_
          conv => whnf
          obtain ⟨r1, r2, r3, r4, r5⟩ := bStp_uq hs (Or.inr (Or.inr (Or.inr (Or.inl ⟨z2, rfl, hg, rfl, rfl, rfl⟩))))
          subst r1; subst r2; subst r3; subst r4; subst r5
          have key := hq (cMove w (nI c) (nI f')) (cTg_tr (cTg_5 (by simp)) (cTg_5 (by simp))) ⟨⟨by rw [ePa]; rfl, rfl, hAt.2.2⟩, ek, (by refine cStk_eq (w := w) ?_ ?_ ?_ _ hstk <;> rfl)⟩
          rw [← c9] at key
          exact key
        · have hno : ∀ g, ¬ (bL (cD w) (qn (w.1 13 (w.1 5 12 * 10 + 9).toNatClampNeg)) d g + 1 = bL (cD w) n d f ∧ bF (cD w) (qn (w.1 13 (w.1 5 12 * 10 + 9).toNatClampNeg)) 0 g f) := hno
          rw [q9, ← ePa] at hno
          conv => whnf
          refine br_t rfl ?_
          conv => whnf
          rcases hs with ⟨a1, -⟩ | ⟨a1, -⟩ | ⟨a1, -⟩ | ⟨-, -, a3, -⟩ | ⟨-, -, a3, a4, a5, ⟨g, a6, a7⟩, a8⟩ | ⟨-, a2, -⟩
          · exact absurd a1 z
          · exact absurd a1 z
          · exact absurd a1 z
          · exact absurd a3.1 (hno _)
          · have hg13 : g < 13 := by
              have := a6.1.1.2.1
              rw [show (169 * g + 13 * d' + f') / 169 = g by omega] at this
              exact this
            have hl64 : bLe (cD w) (bCa (cD w) c) < qn (w.1 1 10) := by
              have := a6.1.2.2
              rw [show (169 * g + 13 * d' + f') / 169 = g by omega, show (169 * g + 13 * d' + f') / 13 % 13 = d' by omega, show (169 * g + 13 * d' + f') % 13 = f' by omega, ePa] at this
              by_cases y : bLe (cD w) (bCa (cD w) c) < qn (w.1 1 10)
              · exact y
              · exfalso
                have e : bL (cD w) (bLe (cD w) (bCa (cD w) c)) d' f' = 10000000000000 := if_neg (fun t => y t.1)
                rw [e] at this
                omega
            refine ⟨n, f, d, st.length, c, g, d', f', bLe (cD w) (bCa (cD w) c), ⟨hT, hAt, hn, hf, hd, ek, hlen, k10, ePa, rfl, hL, hg13, a4, a5, a6⟩, ?_⟩
            conv => whnf
            subst a3
            refine hq _ ?_ ?_
            · exact cTg_tr (cTg_tr (cTg_tr (cTg_tr (cTg_tr (cTg_tr (cTg_k (by simp)) (cTg_k (by simp))) (cTg_k (by simp))) (cTg_5 (by simp))) (cTg_5 (by simp))) (cTg_tr (cTg_5 (by simp)) (cTg_5 (by simp)))) cTg_rf
            · have icc : (w.1 5 11).toNatClampNeg = st.length := i_c ek (by omega)
              rw [a7, a8, ePa]
              refine ⟨⟨rfl, rfl, rfl⟩, ?_, ?_, ?_, ?_, ?_⟩
              · show w.1 5 11 + 1 = nI (st.length + 1)
                exact i_s ek
              · show upd (w.1 29) (w.1 5 11).toNatClampNeg (nI c) st.length = nI c
                rw [icc, upd_at, if_pos rfl]
              · show upd (w.1 30) (w.1 5 11).toNatClampNeg (nI g) st.length = nI g
                rw [icc, upd_at, if_pos rfl]
              · show upd (w.1 31) (w.1 5 11).toNatClampNeg (w.1 5 14) st.length = nI d
                rw [icc, upd_at, if_pos rfl]
                exact hAt.2.2
              · refine cStk_up (k := st.length) (fun j hj => ?_) (fun j hj => ?_) (fun j hj => ?_) st (Nat.le_refl _) hstk
                · show upd (w.1 29) (w.1 5 11).toNatClampNeg (nI c) j = _
                  rw [icc, upd_at, if_neg (by omega)]
                · show upd (w.1 30) (w.1 5 11).toNatClampNeg (nI g) j = _
                  rw [icc, upd_at, if_neg (by omega)]
                · show upd (w.1 31) (w.1 5 11).toNatClampNeg (w.1 5 14) j = _
                  rw [icc, upd_at, if_neg (by omega)]
          · exact absurd z2 a2
      · have z2 : ¬ w.1 13 (w.1 5 12 * 10 + 1).toNatClampNeg = 10 := z2
        rw [c1] at z2
        conv => whnf
        rcases hs with ⟨a1, -⟩ | ⟨a1, -⟩ | ⟨a1, -⟩ | ⟨a1, -⟩ | ⟨a1, -⟩ | ⟨-, -, a3, a4, a5, a6, a7⟩
        · exact absurd a1 z
        · exact absurd a1 z
        · exact absurd a1 z
        · exact absurd a1 z2
        · exact absurd a1 z2
        · refine ⟨n, f, d, n', f', ⟨hT, hAt, hn, hf, hd, hL, a4, a5⟩, ?_⟩
          conv => whnf
          subst a3; subst a6; subst a7
          exact hq _ (cTg_tr (cTg_5 (by simp)) (cTg_5 (by simp))) ⟨⟨rfl, rfl, hAt.2.2⟩, ek, (by refine cStk_eq (w := w) ?_ ?_ ?_ _ hstk <;> rfl)⟩
    · have z : w.1 13 (w.1 5 12 * 10 + 1).toNatClampNeg = 0 := z
      rw [c1] at z
      obtain ⟨⟨p, hp1, hp2, hp3⟩, hW⟩ := hK0 z
      conv => whnf
      match st, ek, hstk, hlen, hs, hW with
      | [], ek, hstk, hlen, hs, hW =>
        refine br_t (i_ge' (x := 0) (i := 0) rfl ek (by simp) (by omega)) ?_
        conv => whnf
        refine ⟨n, f, p, ⟨hT, hAt.1, hAt.2.1, hn, hf, hp1, hp2, hp3, hW rfl⟩, ?_⟩
        rcases hs with ⟨-, -, a3⟩ | ⟨-, -, a3, a4, a5, a6, a7, a8⟩ | ⟨-, -, a3, a4, a5, a6, a7, a8⟩ | ⟨a1, -⟩ | ⟨a1, -⟩ | ⟨a1, -⟩
        · exact absurd a3 (by simp)
        · refine Or.inl ⟨a3, ?_⟩
          conv => whnf
          subst a4; subst a5; subst a6; subst a7; subst a8
          exact hq w cTg_rf ⟨hAt, ek, hstk⟩
        · refine Or.inr ⟨a3, n', f', d', a5, a6, a7, ?_⟩
          conv => whnf
          subst a4; subst a8
          exact hq _ (cTg_tr (cTg_tr (cTg_5 (by simp)) (cTg_5 (by simp))) (cTg_5 (by simp))) ⟨⟨rfl, rfl, rfl⟩, ek, trivial⟩
        · exact absurd (z.symm.trans a1) e010
        · exact absurd (z.symm.trans a1) e010
        · exact absurd z a1
      | (c, g, d1) :: st1, ek, hstk, hlen, hs, hW =>
        have ek : w.1 5 11 = nI (st1.length + 1) := ek
        have hlen : st1.length + 1 < 300 := hlen
        refine br_f (i_lt' (x := 0) (i := 0) rfl ek (by omega) (by omega)) ?_
        conv => whnf
        rcases hs with ⟨-, a2, a3⟩ | ⟨-, a2, -⟩ | ⟨-, a2, -⟩ | ⟨a1, -⟩ | ⟨a1, -⟩ | ⟨a1, -⟩
        · simp only [List.cons.injEq, Prod.mk.injEq] at a3
          obtain ⟨⟨b1, b2, b3⟩, b4⟩ := a3
          subst a2; subst b1; subst b2; subst b3; subst b4
          obtain ⟨s1, s2, s3, s4⟩ := hstk
          have d1' : w.1 5 11 - 1 = nI st1.length := by rw [ek]; exact nI_p1 _
          have icc : (w.1 5 11 - 1).toNatClampNeg = st1.length := i_c d1' (by omega)
          refine ⟨i_in 300 d1' (by omega) (by decide), ?_⟩
          conv => whnf
          refine ⟨i_in 300 d1' (by omega) (by decide), ?_⟩
          conv => whnf
          refine ⟨i_in 300 d1' (by omega) (by decide), ?_⟩
          conv => whnf
          refine hq _ ?_ ?_
          · exact cTg_tr (cTg_tr (cTg_5 (j := 11) (by simp)) (cTg_5 (j := 14) (by simp))) (cTg_tr (cTg_5 (j := 12) (by simp)) (cTg_5 (j := 13) (by simp)))
          · refine ⟨⟨?_, ?_, ?_⟩, d1', (by refine cStk_eq (w := w) ?_ ?_ ?_ _ s4 <;> rfl)⟩
            · show w.1 29 (w.1 5 11 - 1).toNatClampNeg = _
              rw [icc]; exact s1
            · show w.1 30 (w.1 5 11 - 1).toNatClampNeg = _
              rw [icc]; exact s2
            · show w.1 31 (w.1 5 11 - 1).toNatClampNeg = _
              rw [icc]; exact s3
        · exact absurd a2 (by simp)
        · exact absurd a2 (by simp)
        · exact absurd (z.symm.trans a1) e010
        · exact absurd (z.symm.trans a1) e010
        · exact absurd z a1
  · exact h.elim
theorem ha_X6_goBack : ∀ As w P, T_X6_goBack As w P → qq_wd As ≤ 2 := by
  intro As w P h
  unfold T_X6_goBack at h
  split at h
  · exact Nat.le_of_ble_eq_true rfl
  · exact h.elim
theorem hv_X6_goBack : ∀ As w P, T_X6_goBack As w P → ∃ (k : Nat) (r : List Value) (fs : List Nat), As = .ref k :: r ∧ ww_sh[k]? = some (.inr (6, fs)) := by
  intro As w P h
  unfold T_X6_goBack at h
  split at h
  · exact ⟨_, _, _, rfl, rfl⟩
  · exact h.elim
set_option maxRecDepth 100000 in
theorem M_X6_goBack (l : Launch) : qq_M l ww_T ww_N vwCl ww_sh ww_ro ww_zs yX6_goBack cX6_goBack 2 (some .int) (ww_rm 5) T_X6_goBack := by
  refine qq_mk (host := RX7) (is := ki_X6_goBack) (cs := cs_X6_goBack) (by decide) ww_k1 wl_X6 ww_so ww_so2 kc_X6_goBack kv_X6_goBack kg_X6_goBack ?_ ha_X6_goBack bd_X6_goBack
  intro k i q hi hq
  match k, hi, hq with
  | 0, hi, hq => cases hi; cases hq; exact fun p e s m args below meth c D tys tC ad Q pc X hdg => qq_cV (ci := 3) X ww_gd (M_X3_of l) kf_X3_of.1 (Or.inl (ww_a4 (i := 71) (w := Cond.methodLink RX6 87 yX3_of) rfl rfl)) kf_X3_of.2.1 kf_X3_of.2.2.1 kf_X3_of.2.2.2 ⟨by decide, by decide, by decide +kernel⟩ rfl rfl rfl ⟨by decide, by decide⟩ ⟨Nat.le_refl _, Nat.le_refl _⟩ hv_X3_of hdg
  | 1, hi, hq => cases hi; cases hq; exact fun p e s m args below meth c D tys tC ad Q pc X hdg => qq_cV (ci := 6) X ww_gd (M_X6_goBackToLaidCall l) kf_X6_goBackToLaidCall.1 (Or.inl (ww_a4 (i := 72) (w := Cond.methodLink RX6 93 yX6_goBackToLaidCall) rfl rfl)) kf_X6_goBackToLaidCall.2.1 kf_X6_goBackToLaidCall.2.2.1 kf_X6_goBackToLaidCall.2.2.2 ⟨by decide, by decide, by decide +kernel⟩ rfl rfl rfl ⟨by decide, by decide⟩ ⟨Nat.le_refl _, Nat.le_refl _⟩ hv_X6_goBackToLaidCall hdg
  | 2, hi, hq => cases hi; cases hq; exact fun p e s m args below meth c D tys tC ad Q pc X hdg => qq_cV (ci := 6) X ww_gd (M_X6_goBackToCall l) kf_X6_goBackToCall.1 (Or.inl (ww_a4 (i := 76) (w := Cond.methodLink RX6 96 yX6_goBackToCall) rfl rfl)) kf_X6_goBackToCall.2.1 kf_X6_goBackToCall.2.2.1 kf_X6_goBackToCall.2.2.2 ⟨by decide, by decide, by decide +kernel⟩ rfl rfl rfl ⟨by decide, by decide⟩ ⟨Nat.le_refl _, Nat.le_refl _⟩ hv_X6_goBackToCall hdg
  | 3, hi, hq => cases hi; cases hq; exact fun p e s m args below meth c D tys tC ad Q pc X hdg => qq_cV (ci := 6) X ww_gd (M_X6_goBackAlongEdge l) kf_X6_goBackAlongEdge.1 (Or.inl (ww_a4 (i := 85) (w := Cond.methodLink RX6 99 yX6_goBackAlongEdge) rfl rfl)) kf_X6_goBackAlongEdge.2.1 kf_X6_goBackAlongEdge.2.2.1 kf_X6_goBackAlongEdge.2.2.2 ⟨by decide, by decide, by decide +kernel⟩ rfl rfl rfl ⟨by decide, by decide⟩ ⟨Nat.le_refl _, Nat.le_refl _⟩ hv_X6_goBackAlongEdge hdg
  | 4, hi, hq => cases hi; cases hq; exact fun p e s m args below meth c D tys tC ad Q pc X hdg => qq_cV (ci := 6) X ww_gd (M_X6_goBackAcross l) kf_X6_goBackAcross.1 (Or.inl (ww_a4 (i := 98) (w := Cond.methodLink RX6 102 yX6_goBackAcross) rfl rfl)) kf_X6_goBackAcross.2.1 kf_X6_goBackAcross.2.2.1 kf_X6_goBackAcross.2.2.2 ⟨by decide, by decide, by decide +kernel⟩ rfl rfl rfl ⟨by decide, by decide⟩ ⟨Nat.le_refl _, Nat.le_refl _⟩ hv_X6_goBackAcross hdg
  | 5, hi, hq => cases hi; cases hq; exact fun p e s m args below meth c D tys tC ad Q pc X hdg => qq_cV (ci := 6) X ww_gd (M_X6_goBackToLeave l) kf_X6_goBackToLeave.1 (Or.inl (ww_a4 (i := 102) (w := Cond.methodLink RX6 106 yX6_goBackToLeave) rfl rfl)) kf_X6_goBackToLeave.2.1 kf_X6_goBackToLeave.2.2.1 kf_X6_goBackToLeave.2.2.2 ⟨by decide, by decide, by decide +kernel⟩ rfl rfl rfl ⟨by decide, by decide⟩ ⟨Nat.le_refl _, Nat.le_refl _⟩ hv_X6_goBackToLeave hdg
  | n + 6, hi, hq => simp [cs_X6_goBack] at hq
