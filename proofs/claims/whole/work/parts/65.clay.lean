abbrev cs_X6_countOpen : List (Nat × qq_t) := []
/-- how many calls are open, by the ways -/
def oW (f : Nat → Int32) : Nat → Int32
  | 0 => 0
  | k + 1 => oW f k + (if f k = 3 then 1 else if f k = 4 then -1 else 0)
def T_X6_countOpen : qq_t := fun As w P => match As with
  | [.ref 5] => ∃ s, (w.1 5 7 = nI s ∧ s ≤ 300) ∧ ∀ w', w'.2 = w.2 → (∀ q, q ≠ 28 → w'.1 q = w.1 q) → (∀ i, i < s → w'.1 28 i = oW (w.1 27) (i + 1)) → P none w'
  | _ => False
theorem cno_4 {P : Option Value → qq_w → Prop} {K : Nat → qq_L → List Value → qq_w → Prop} (S : qq_Sat ww_sh ww_ro cs_X6_countOpen (qq_at 55 kd_X6_countOpen) none P K) {w : qq_w} {s : Nat} (es : w.1 5 7 = nI s) (hs : s ≤ 300) (hq : ∀ w', w'.2 = w.2 → (∀ q, q ≠ 28 → w'.1 q = w.1 q) → (∀ i, i < s → w'.1 28 i = oW (w.1 27) (i + 1)) → P none w') :
    ∀ m i, i + m = s → ∀ (x1 x2 : Int32) (w1 : qq_w), x2 = nI i → x1 = oW (w.1 27) i → w1.2 = w.2 → (∀ q, q ≠ 28 → w1.1 q = w.1 q) → (∀ j, j < i → w1.1 28 j = oW (w.1 27) (j + 1)) → K 4 [(0, .ref 5), (1, .int x1), (2, .int x2)] [] w1 := by
  intro m
  induction m with
  | zero =>
    intro i hi x1 x2 w1 e2 e1 o2 o h1
    have : i = s := by omega
    subst this
    have e7 : w1.1 5 7 = nI i := by rw [o 5 (by decide)]; exact es
    refine qq_go_ok S (fun pc => Nat.beq pc 4) 60 ?_
    conv => whnf
    refine br_t (i_ge' e2 e7 (by omega) (by omega)) ?_
    conv => whnf
    exact hq w1 o2 o h1
  | succ m ih =>
    intro i hi x1 x2 w1 e2 e1 o2 o h1
    have e7 : w1.1 5 7 = nI s := by rw [o 5 (by decide)]; exact es
    have icc : x2.toNatClampNeg = i := i_c e2 (by omega)
    have c27 : w1.1 27 x2.toNatClampNeg = w.1 27 i := by rw [o 27 (by decide), icc]
    have go : ∀ y : Int32, y = oW (w.1 27) (i + 1) → K 4 [(0, .ref 5), (1, .int y), (2, .int (x2 + 1))] [] (qq_ui w1 28 x2.toNatClampNeg y) := fun y ey => by
      refine ih (i + 1) (by omega) _ _ _ (i_s e2) ey o2 (fun q hq => ?_) (fun j hj => ?_)
      · rw [← o q hq]
        simp only [qq_ui, va_up, hq, if_false]
      · show upd (w1.1 28) x2.toNatClampNeg y j = _
        rw [icc, upd_at]
        by_cases q : j = i
        · rw [if_pos q, q]; exact ey
        · rw [if_neg q]; exact h1 j (by omega)
    refine qq_go_ok S (fun pc => Nat.beq pc 4) 60 ?_
    conv => whnf
    refine br_f (i_lt' e2 e7 (by omega) (by omega)) ?_
    conv => whnf
    refine ⟨i_in 300 e2 (by omega) (by decide), ?_⟩
    conv => whnf
    refine ⟨fun z => ?_, fun z => ?_⟩
    · have z : ¬ w1.1 27 x2.toNatClampNeg = 3 := z
      rw [c27] at z
      conv => whnf
      refine ⟨i_in 300 e2 (by omega) (by decide), ?_⟩
      conv => whnf
      refine ⟨fun z2 => ?_, fun z2 => ?_⟩
      · have z2 : ¬ w1.1 27 x2.toNatClampNeg = 4 := z2
        rw [c27] at z2
        conv => whnf
        refine ⟨i_in 300 e2 (by omega) (by decide), ?_⟩
        conv => whnf
        refine qq_wk S (go x1 ?_) ⟨rfl, rfl, rfl, trivial⟩
        rw [oW, if_neg z, if_neg z2, e1, Int32.add_zero]
      · have z2 : w1.1 27 x2.toNatClampNeg = 4 := z2
        rw [c27] at z2
        conv => whnf
        refine ⟨i_in 300 e2 (by omega) (by decide), ?_⟩
        conv => whnf
        refine qq_wk S (go (x1 + -1) ?_) ⟨rfl, rfl, rfl, trivial⟩
        rw [oW, if_neg z, if_pos z2, e1]
    · have z : w1.1 27 x2.toNatClampNeg = 3 := z
      rw [c27] at z
      conv => whnf
      refine ⟨i_in 300 e2 (by omega) (by decide), ?_⟩
      conv => whnf
      refine qq_wk S (go (x1 + 1) ?_) ⟨rfl, rfl, rfl, trivial⟩
      rw [oW, if_pos z, e1]
set_option maxHeartbeats 4000000 in
set_option maxRecDepth 100000 in
theorem bd_X6_countOpen : ∀ As w P K, qq_Sat ww_sh ww_ro cs_X6_countOpen (qq_at 55 kd_X6_countOpen) none P K → T_X6_countOpen As w P → K 0 (lv_args 0 As) [] w := by
  intro As w P K S h
  unfold T_X6_countOpen at h
  split at h
  · skip
    obtain ⟨s, ⟨es, hs⟩, hq⟩ := h
    refine qq_go_ok S (fun pc => Nat.beq pc 4) 60 ?_
    conv => whnf
    exact qq_wk S (cno_4 S es hs hq s 0 (Nat.zero_add _) _ _ w rfl rfl rfl (fun _ _ => rfl) (fun i hi => absurd hi (by omega))) ⟨rfl, rfl, rfl, trivial⟩
  · exact h.elim
theorem ha_X6_countOpen : ∀ As w P, T_X6_countOpen As w P → qq_wd As ≤ 3 := by
  intro As w P h
  unfold T_X6_countOpen at h
  split at h
  · exact Nat.le_of_ble_eq_true rfl
  · exact h.elim
theorem hv_X6_countOpen : ∀ As w P, T_X6_countOpen As w P → ∃ (k : Nat) (r : List Value) (fs : List Nat), As = .ref k :: r ∧ ww_sh[k]? = some (.inr (6, fs)) := by
  intro As w P h
  unfold T_X6_countOpen at h
  split at h
  · exact ⟨_, _, _, rfl, rfl⟩
  · exact h.elim
set_option maxRecDepth 100000 in
theorem M_X6_countOpen (l : Launch) : qq_M l ww_T ww_N vwCl ww_sh ww_ro ww_zs yX6_countOpen cX6_countOpen 3 none (ww_rm 0) T_X6_countOpen := by
  refine qq_mk (host := RX7) (is := ki_X6_countOpen) (cs := cs_X6_countOpen) (by decide) ww_k1 wl_X6 ww_so ww_so2 kc_X6_countOpen kv_X6_countOpen kg_X6_countOpen ?_ ha_X6_countOpen bd_X6_countOpen
  intro k i q hi hq
  simp [cs_X6_countOpen] at hq
/-- what holds of every state that a short track comes to -/
def gStk (D : BD) (N : Nat) : List (Nat × Nat × Nat) → Prop
  | [] => True
  | (c, g, d) :: st => (c < N ∧ g < 13 ∧ d < 13 ∧ bL D c d g < 300 ∧ (st = [] → bW D (bEn D (bOw D c)) d + bL D c d g < 300)) ∧ gStk D N st
def gSt (D : BD) (N n f d : Nat) (st : List (Nat × Nat × Nat)) : Prop := n < N ∧ f < 13 ∧ d < 13 ∧ bL D n d f < 300 ∧ (st = [] → bW D (bEn D (bOw D n)) d + bL D n d f < 300) ∧ gStk D N st
theorem gSt_0 {D : BD} {N n f d : Nat} {st : List (Nat × Nat × Nat)} (hb : bOk D N) (h : gSt D N n f d st) (h0 : bK D n = 0) : n = bEn D (bOw D n) ∧ f = d ∧ bL D n d f = 0 := by
  obtain ⟨a1, a2, a3, a4, a5, a6⟩ := h
  have z : bL D n d f = 0 := by
    rcases Nat.eq_zero_or_pos (bL D n d f) with z | z
    · exact z
    · exact absurd h0 (hb.2.1 n d f a1 a3 a2 (by rw [h0]; decide) z a4).1
  have := hb.1 n d f a1 a3 a2 z
  exact ⟨this.1, this.2, z⟩
theorem gSt_W {D : BD} {N n f d : Nat} {st : List (Nat × Nat × Nat)} (hb : bOk D N) (h : gSt D N n f d st) (h0 : bK D n = 0) (hst : st = []) : bW D n f < 300 := by
  obtain ⟨z1, z2, z3⟩ := gSt_0 hb h h0
  have := h.2.2.2.2.1 hst
  rw [← z1, z3] at this
  rw [z2]
  omega
theorem gSt_go {D : BD} {N n f d h n' f' d' : Nat} {st st' : List (Nat × Nat × Nat)} (hb : bOk D N) (hF : ∀ n p f g, bF D n p f g → n < N ∧ f < 13) (hL : ∀ n d f, ¬ n < N → 1000000000000 ≤ bL D n d f) (hg : gSt D N n f d st) (hs : bStp D n f d st h n' f' d' st') : gSt D N n' f' d' st' := by
  have hg0 := hg
  obtain ⟨a1, a2, a3, a4, a5, a6⟩ := hg
  rcases hs with ⟨b1, b2, b3⟩ | ⟨b1, b2, b3, b4, b5, b6, b7, b8⟩ | ⟨b1, b2, b3, b4, b5, b6, b7, b8⟩ | ⟨b1, b2, b3, b4, b5, b6⟩ | ⟨b1, b2, b3, b4, b5, ⟨g, b6, b7⟩, b8⟩ | ⟨b1, b2, b3, b4, b5, b6, b7⟩
  · rw [b3] at a6
    exact ⟨a6.1.1, a6.1.2.1, a6.1.2.2.1, a6.1.2.2.2.1, a6.1.2.2.2.2, a6.2⟩
  · subst b5; subst b6; subst b7; subst b8
    exact ⟨a1, a2, a3, a4, fun _ => a5 b2, trivial⟩
  · subst b8
    have hW := gSt_W hb hg0 b1 b2
    obtain ⟨c1, c2, c3, c4⟩ := b6.1
    rw [show (13 * n' + f') / 13 = n' by omega, show (13 * n' + f') % 13 = f' by omega] at c3
    rw [show (13 * n' + f') / 13 = n' by omega] at c4
    have := b7.2.1
    exact ⟨(hF _ _ _ _ c4).1, b5, b7.1, by omega, fun _ => by omega, trivial⟩
  · subst b4; subst b5; subst b6
    obtain ⟨c1, c2⟩ := b3.1
    have hp := hb.2.2.2.2.1 n a1 b1
    exact ⟨hp.1, (hF _ _ _ _ c2).2, a3, by omega, fun e => by rw [hp.2.1]; have := a5 e; omega, a6⟩
  · subst b7; subst b8
    obtain ⟨c1, c2, c3⟩ := b6.1
    rw [show (169 * g + 13 * d' + f') / 169 = g by omega] at c1
    rw [show (169 * g + 13 * d' + f') / 169 = g by omega, show (169 * g + 13 * d' + f') / 13 % 13 = d' by omega, show (169 * g + 13 * d' + f') % 13 = f' by omega] at c3
    have hp := hb.2.2.2.2.1 n a1 b1
    refine ⟨?_, b5, b4, by omega, fun e => absurd e (by simp), ⟨hp.1, (hF _ _ _ _ c1).2, a3, by omega, fun e => by rw [hp.2.1]; have := a5 e; omega⟩, a6⟩
    by_cases y : bLe D (bCa D (bPa D n)) < N
    · exact y
    · have := hL (bLe D (bCa D (bPa D n))) d' f' y
      omega
  · subst b6; subst b7
    obtain ⟨c1, c2, c3⟩ := b5.1
    rw [show (13 * n' + f') / 13 = n' by omega] at c1 c2 c3
    rw [show (13 * n' + f') % 13 = f' by omega] at c2
    have ho := hb.2.2.2.1 n' n c1
    exact ⟨(hF _ _ _ _ c3).1, b4, a3, by omega, fun e => by rw [ho]; have := a5 e; omega, a6⟩
theorem bStp_len {D : BD} {n f d h n' f' d' : Nat} {st st' : List (Nat × Nat × Nat)} (hs : bStp D n f d st h n' f' d' st') : st'.length ≤ st.length + 1 := by
  rcases hs with ⟨b1, b2, b3⟩ | ⟨b1, b2, b3, b4, b5, b6, b7, b8⟩ | ⟨b1, b2, b3, b4, b5, b6, b7, b8⟩ | ⟨b1, b2, b3, b4, b5, b6⟩ | ⟨b1, b2, b3, b4, b5, ⟨g, b6, b7⟩, b8⟩ | ⟨b1, b2, b3, b4, b5, b6, b7⟩
  · rw [b3]; simp only [List.length_cons]; omega
  · rw [b8]; exact Nat.zero_le _
  · rw [b8]; exact Nat.zero_le _
  · rw [b6]; omega
  · rw [b7]; exact Nat.le_refl _
  · rw [b7]; omega
abbrev cs_X6_lay : List (Nat × qq_t) := [(3, T_X2_whole), (3, T_X6_moveOutside), (1, T_X6_goBack), (1, T_X6_countOpen)]
/-- a track is laid -/
def cLaid (w : qq_w) (l : List (Nat × Nat × Nat)) (w' : qq_w) : Prop := (∀ q, q ∉ [5, 25, 26, 27, 28, 29, 30, 31] → w'.1 q = w.1 q) ∧ w'.2 = w.2 ∧ (∀ j, j ∉ [7, 11, 12, 13, 14] → w'.1 5 j = w.1 5 j) ∧ w'.1 5 7 = nI l.length ∧ (∀ i, i < l.length → w'.1 25 i = nI (l.getD (l.length - 1 - i) (0, 0, 0)).1 ∧ w'.1 26 i = nI (l.getD (l.length - 1 - i) (0, 0, 0)).2.1 ∧ w'.1 27 i = nI (l.getD (l.length - 1 - i) (0, 0, 0)).2.2) ∧ ∀ i, i < l.length → w'.1 28 i = oW (w'.1 27) (i + 1)
def T_X6_lay : qq_t := fun As w P => match As with
  | [.ref 5, .int a, .int f] => ∃ l d0 s', (cTp w (qn (w.1 1 10)) (qn (w.1 1 9)) ∧ bOk (cD w) (qn (w.1 1 10)) ∧ vp_in a 64 ∧ qn a < qn (w.1 1 10) ∧ vp_in f 13 ∧ bW (cD w) (qn a) (qn f) < 300 ∧ bOut (cD w) (qn a) (qn f) d0 ∧ l.length = bW (cD w) (qn a) (qn f) + 1 ∧ bRun (cD w) l (qn a, qn f, d0, []) s') ∧ ∀ w', cLaid w l w' → P none w'
  | _ => False
theorem ly_34 {P : Option Value → qq_w → Prop} {K : Nat → qq_L → List Value → qq_w → Prop} (S : qq_Sat ww_sh ww_ro cs_X6_lay (qq_at 79 kd_X6_lay) none P K) {w : qq_w} {N M : Nat} {l : List (Nat × Nat × Nat)} {s' : BSt} (eN : qn (w.1 1 10) = N) (eM : qn (w.1 1 9) = M) (hT : cTp w N M) (hb : bOk (cBD w N M) N) (hl : l.length ≤ 300)
    (hk : ∀ w1, cTf w w1 → (∀ j, j ∉ [7, 11, 12, 13, 14] → w1.1 5 j = w.1 5 j) → w1.1 5 7 = nI l.length → (∀ i, i < l.length → w1.1 25 i = nI (l.getD (l.length - 1 - i) (0, 0, 0)).1 ∧ w1.1 26 i = nI (l.getD (l.length - 1 - i) (0, 0, 0)).2.1 ∧ w1.1 27 i = nI (l.getD (l.length - 1 - i) (0, 0, 0)).2.2) → K 74 [(0, .ref 5)] [] w1) :
    ∀ m k, k + m = l.length → ∀ (x3 : Int32) (w1 : qq_w) (l1 l2 : List (Nat × Nat × Nat)) (n f d : Nat) (st : List (Nat × Nat × Nat)), x3 + 1 = nI m → l = l1 ++ l2 → l1.length = k → cTf w w1 → (∀ j, j ∉ [7, 11, 12, 13, 14] → w1.1 5 j = w.1 5 j) → w1.1 5 7 = nI l.length → cSt w1 n f d st → gSt (cBD w N M) N n f d st → st.length ≤ k → bRun (cBD w N M) l2 (n, f, d, st) s' → (∀ i, m ≤ i → i < l.length → w1.1 25 i = nI (l.getD (l.length - 1 - i) (0, 0, 0)).1 ∧ w1.1 26 i = nI (l.getD (l.length - 1 - i) (0, 0, 0)).2.1 ∧ w1.1 27 i = nI (l.getD (l.length - 1 - i) (0, 0, 0)).2.2) → K 34 [(0, .ref 5), (3, .int x3)] [] w1 := by
  have hN := hT.1.2.1
  have hM8 := hT.2.2.2.1
  intro m
  induction m with
  | zero =>
    intro k hkm x3 w1 l1 l2 n f d st e3 el el1 htf ho e7 hst hg hsl hr hfill
    have e3 : x3 = -1 := by
      have : x3 = nI 0 - 1 := Int32.eq_sub_iff_add_eq.mpr e3
      rw [this]; rfl
    refine qq_go_ok S (fun pc => Nat.beq pc 74) 60 ?_
    conv => whnf
    refine br_t (show x3 < 0 by rw [e3]; decide) ?_
    conv => whnf
    exact qq_wk S (hk w1 htf ho e7 (fun i hi => hfill i (Nat.zero_le _) hi)) ⟨rfl, trivial⟩
  | succ m ih =>
    intro k hkm x3 w1 l1 l2 n f d st e3 el el1 htf ho e7 hst hg hsl hr hfill
    have e3' : x3 = nI m := by
      have : x3 = nI (m + 1) - 1 := Int32.eq_sub_iff_add_eq.mpr e3
      rw [this]; exact nI_p1 m
    match l2, el, hr with
    | [], el, hr =>
      exfalso
      rw [el, List.length_append, el1, List.length_nil] at hkm
      omega
    | o :: l3, el, hr =>
      obtain ⟨s1, hs, hr3⟩ := hr
      obtain ⟨n', f', d', st'⟩ := s1
      obtain ⟨on, of, oh⟩ := o
      obtain ⟨h1, h2, h3⟩ := hs
      have h1 : on = n := h1
      have h2 : of = f := h2
      have h3 : bStp (cBD w N M) n f d st oh n' f' d' st' := h3
      subst h1; subst h2
      have hge : l.getD k (0, 0, 0) = (on, of, oh) := by
        rw [el, List.getD_eq_getElem?_getD, List.getElem?_append_right (by omega), el1, Nat.sub_self]
        rfl
      have icc : x3.toNatClampNeg = m := i_c e3' (by omega)
      have hTp := cTp_tf htf hT
      generalize hw2 : qq_ui (qq_ui w1 25 x3.toNatClampNeg (w1.1 5 12)) 26 x3.toNatClampNeg (w1.1 5 13) = w2
      have tf2 : cTf w1 w2 := by rw [← hw2]; exact cTf_tr (cTf_ui (by simp)) (cTf_ui (by simp))
      have tf02 := cTf_tr htf tf2
      have w25 : ∀ i, w2.1 25 i = if i = m then nI on else w1.1 25 i := fun i => by
        rw [← hw2]
        show upd (w1.1 25) x3.toNatClampNeg (w1.1 5 12) i = _
        rw [icc, upd_at, hst.1.1]
      have w26 : ∀ i, w2.1 26 i = if i = m then nI of else w1.1 26 i := fun i => by
        rw [← hw2]
        show upd (w1.1 26) x3.toNatClampNeg (w1.1 5 13) i = _
        rw [icc, upd_at, hst.1.2.1]
      have w27 : w2.1 27 = w1.1 27 := by rw [← hw2]; rfl
      have w5 : w2.1 5 = w1.1 5 := by rw [← hw2]; rfl
      have hst2 : cSt w2 on of d st := by
        refine ⟨⟨by rw [w5]; exact hst.1.1, by rw [w5]; exact hst.1.2.1, by rw [w5]; exact hst.1.2.2⟩, by rw [w5]; exact hst.2.1, ?_⟩
        refine cStk_eq (w := w1) ?_ ?_ ?_ st hst.2.2 <;> (rw [← hw2]; rfl)
      have eN2 : qn (w2.1 1 10) = N := by rw [tf02.1 1 (by simp)]; exact eN
      have eM2 : qn (w2.1 1 9) = M := by rw [tf02.1 1 (by simp)]; exact eM
      have eD2 : cD w2 = cBD w N M := by
        unfold cD
        rw [eN2, eM2]
        exact cBD_tf tf02 N M
      have hgo : T_X6_goBack [.ref 5] w2 (fun v w' => ∀ x, v = some (.int x) → K 34 [(0, .ref 5), (3, .int (x3 + -1))] [] (qq_ui w' 27 x3.toNatClampNeg x)) := by
        refine ⟨on, of, d, st, oh, n', f', d', st', ⟨by rw [eN2, eM2]; exact cTp_tf tf02 hT, hst2, by rw [eN2]; exact hg.1, hg.2.1, hg.2.2.1, fun h0 => ?_, by rw [eD2]; exact hg.2.2.2.1, by omega, by rw [eD2]; exact h3⟩, fun w3 tg hst3 x ex => ?_⟩
        · rw [eD2] at h0 ⊢
          refine ⟨?_, fun e => gSt_W hb hg h0 e⟩
          obtain ⟨p, m', s1, s2, s3, s4, s5, s6⟩ := hT.2.2.1.1 on hg.1
          have hnE := (gSt_0 hb hg h0).1
          have eOw : bOw (cBD w N M) on = p := by
            show (if on < N then qn (cX w on 0) else 0) = p
            rw [if_pos hg.1, s3]
            exact qn_nI (by omega)
          rw [eOw] at hnE
          have hnE : on = (if p < M then qn (w.1 12 p) else 0) := hnE
          rw [if_pos s1, s4, qn_nI (by omega)] at hnE
          refine ⟨p, by rw [eM2]; exact s1, by rw [cX_tf tf02]; exact s3, by rw [tf02.1 12 (by simp), s4, hnE]⟩
        · have ex : x = nI oh := by
            simp only [Option.some.injEq, Value.int.injEq] at ex
            exact ex.symm
          have tf3 : cTf w (qq_ui w3 27 x3.toNatClampNeg x) := cTf_tr (cTf_tr tf02 (cTg_tf tg)) (cTf_ui (by simp))
          have v5 : (qq_ui w3 27 x3.toNatClampNeg x).1 5 = w3.1 5 := rfl
          refine ih (k + 1) (by omega) _ _ (l1 ++ [(on, of, oh)]) l3 n' f' d' st' ?_ (by rw [el]; simp) (by rw [List.length_append, el1]; rfl) tf3 (fun j hj => ?_) ?_ ?_ (gSt_go hb (fun _ _ _ _ y => ⟨y.1, y.2.1⟩) (fun a b c y => ?_) hg h3) ?_ hr3 (fun i hi1 hi2 => ?_)
          · show x3 + -1 + 1 = nI m
            rw [Int32.add_assoc, show (-1 : Int32) + 1 = 0 by decide, Int32.add_zero]
            exact e3'
          · rw [v5, tg.2.1 j (by simp at hj ⊢; omega), w5]
            exact ho j hj
          · rw [v5, tg.2.1 7 (by simp), w5]
            exact e7
          · refine ⟨hst3.1, hst3.2.1, ?_⟩
            refine cStk_eq (w := w3) ?_ ?_ ?_ st' hst3.2.2 <;> rfl
          · have : bL (cBD w N M) a b c = 10000000000000 := if_neg (fun t => y t.1)
            rw [this]
            omega
          · have := bStp_len h3
            omega
          · have u25 : (qq_ui w3 27 x3.toNatClampNeg x).1 25 = w2.1 25 := tg.1 25 (by simp)
            have u26 : (qq_ui w3 27 x3.toNatClampNeg x).1 26 = w2.1 26 := tg.1 26 (by simp)
            have u27 : (qq_ui w3 27 x3.toNatClampNeg x).1 27 i = if i = m then x else w1.1 27 i := by
              show upd (w3.1 27) x3.toNatClampNeg x i = _
              rw [icc, upd_at, tg.1 27 (by simp), w27]
            rw [u25, u26, u27, w25, w26]
            by_cases q : i = m
            · rw [if_pos q, if_pos q, if_pos q, q, show l.length - 1 - m = k by omega, hge, ex]
              exact ⟨rfl, rfl, rfl⟩
            · rw [if_neg q, if_neg q, if_neg q]
              exact hfill i (by omega) hi2
      refine qq_go_ok S (fun pc => Nat.beq pc 74 || Nat.beq pc 34) 60 ?_
      conv => whnf
      refine br_f (show ¬ x3 < 0 from fun y => ?_) ?_
      · have := i_ge' (x := x3) (y := 0) (n := 0) e3' rfl (Nat.zero_le _) (by omega)
        exact absurd y (Int32.not_lt.mpr this)
      conv => whnf
      refine ⟨i_in 300 e3' (by omega) (by decide), ?_⟩
      conv => whnf
      refine ⟨i_in 300 e3' (by omega) (by decide), ?_⟩
      conv => whnf
      obtain ⟨a1, a2, a3, a4, a5, a6, a7, a8, a9, pre, post⟩ := hgo
      rw [← hw2] at pre
      refine ⟨a1, a2, a3, a4, a5, a6, a7, a8, a9, pre, fun w' t1 t2 => ?_⟩
      have key := post w' (by rw [← hw2]; exact t1) t2 _ rfl
      conv => whnf
      refine ⟨i_in 300 e3' (by omega) (by decide), ?_⟩
      conv => whnf
      exact qq_wk S key ⟨rfl, rfl, trivial⟩
set_option maxHeartbeats 4000000 in
set_option maxRecDepth 100000 in
theorem bd_X6_lay : ∀ As w P K, qq_Sat ww_sh ww_ro cs_X6_lay (qq_at 79 kd_X6_lay) none P K → T_X6_lay As w P → K 0 (lv_args 0 As) [] w := by
  intro As w P K S h
  unfold T_X6_lay at h
  split at h
  · rename_i a f
    obtain ⟨l, d0, s', ⟨hT, hb, hp, hn, hp2, hW, ho, hlen, hr⟩, hq⟩ := h
    obtain ⟨ea, ha⟩ := qn_eq hp (by decide)
    obtain ⟨ef, hf⟩ := qn_eq hp2 (by decide)
    have hN := hT.1.2.1
    obtain ⟨C, eC, hC, hC2⟩ := cD_W (M := qn (w.1 1 9)) hT.2.2.2.2.2.2.1 hn hf
    have hW' : bW (cBD w (qn (w.1 1 10)) (qn (w.1 1 9))) (qn a) (qn f) < 300 := hW
    have hC3 : C = bW (cD w) (qn a) (qn f) := by
      show C = bW (cBD w (qn (w.1 1 10)) (qn (w.1 1 9))) (qn a) (qn f)
      rw [hC2] at hW' ⊢
      split at hW' <;> rename_i z
      · rw [if_pos z]
      · omega
    have iW : a * 13 + f = nI (13 * qn a + qn f) := nI_ml ea ef (nI_lit 13)
    have cC : w.2 24 (a * 13 + f).toNatClampNeg = lN C := by rw [i_c iW (by omega)]; exact eC
    have eS : (w.2 24 (a * 13 + f).toNatClampNeg).toInt32 + 1 = nI l.length := by
      rw [cC, hlen, ← hC3]
      have : (lN C).toInt32 = nI C := (by decide +kernel : ∀ C, C < 300 → (lN C).toInt32 = nI C) C (by rw [hC3]; exact hW)
      rw [this]
      exact i_s rfl
    refine qq_go_ok S (fun pc => Nat.beq pc 34) 60 ?_
    conv => whnf
    refine ⟨i_in 832 iW (by omega) (by decide), ?_⟩
    generalize hwa : qq_ui (qq_ui w 5 7 ((w.2 24 (a * 13 + f).toNatClampNeg).toInt32 + 1)) 5 11 0 = wa
    have tfa : cTf w wa := by rw [← hwa]; exact cTf_tr (cTf_ui (by simp)) (cTf_ui (by simp))
    have eNa : qn (wa.1 1 10) = qn (w.1 1 10) := by rw [tfa.1 1 (by simp)]
    have eMa : qn (wa.1 1 9) = qn (w.1 1 9) := by rw [tfa.1 1 (by simp)]
    have eDa : cD wa = cD w := by
      unfold cD
      rw [eNa, eMa]
      exact cBD_tf tfa _ _
    have hmo : T_X6_moveOutside [.ref 5, .int a, .int f] wa (fun _ w1 => K 34 [(0, .ref 5), (3, .int (w1.1 5 7 - 1))] [] w1) := by
      refine ⟨d0, ⟨by rw [eNa, eMa]; exact cTp_tf tfa hT, hp, by rw [eNa]; exact hn, hp2, by rw [eDa]; exact hW, by rw [eDa]; exact ho⟩, ?_⟩
      have tfb : cTf w (qq_ui (cMove wa a f) 5 14 (nI d0)) := cTf_tr tfa (cTf_tr (cTf_tr (cTf_ui (by simp)) (cTf_ui (by simp))) (cTf_ui (by simp)))
      have v7 : (qq_ui (cMove wa a f) 5 14 (nI d0)).1 5 7 = nI l.length := by
        show wa.1 5 7 = _
        rw [← hwa]
        exact eS
      have ho1 := ho.2.1
      refine ly_34 S (w := w) (N := qn (w.1 1 10)) (M := qn (w.1 1 9)) (l := l) (s' := s') rfl rfl hT hb (by omega) (fun w1 t1 t2 t3 t4 => ?_) l.length 0 (Nat.zero_add _) _ _ [] l (qn a) (qn f) d0 [] ?_ rfl rfl tfb (fun j hj => ?_) v7 ⟨⟨ea, ef, rfl⟩, ?_, trivial⟩ ⟨hn, hf, ho.1, ?_, fun _ => ?_, trivial⟩ (Nat.zero_le _) hr (fun i h1 h2 => absurd h2 (by omega))
      · refine qq_go_ok S (fun _ => false) 60 ?_
        conv => whnf
        refine ⟨l.length, ⟨t3, by omega⟩, fun w2 u1 u2 u3 => ?_⟩
        conv => whnf
        refine hq w2 ⟨fun q hq => ?_, ?_, fun j hj => ?_, ?_, fun i hi => ?_, fun i hi => ?_⟩
        · rw [u2 q (by simp at hq; omega)]; exact t1.1 q hq
        · rw [u1]; exact t1.2
        · rw [u2 5 (by decide)]; exact t2 j hj
        · rw [u2 5 (by decide)]; exact t3
        · rw [u2 25 (by decide), u2 26 (by decide), u2 27 (by decide)]
          exact t4 i hi
        · rw [u2 27 (by decide)]; exact u3 i hi
      · rw [v7]; exact Int32.sub_add_cancel _ _
      · simp only [List.mem_cons, List.not_mem_nil, or_false, not_or] at hj
        show upd (upd (upd (wa.1 5) 12 a) 13 f) 14 (nI d0) j = _
        rw [upd_at, if_neg hj.2.2.2.2, upd_at, if_neg hj.2.2.2.1, upd_at, if_neg hj.2.2.1, ← hwa]
        show upd (upd (w.1 5) 7 _) 11 0 j = _
        rw [upd_at, if_neg hj.2.1, upd_at, if_neg hj.1]
      · show wa.1 5 11 = _
        rw [← hwa]
        rfl
      · show bL (cD w) (qn a) d0 (qn f) < 300
        omega
      · show bW (cD w) (bEn (cD w) (bOw (cD w) (qn a))) d0 + bL (cD w) (qn a) d0 (qn f) < 300
        omega
    conv => whnf
    obtain ⟨d1, pre, post⟩ := hmo
    rw [← hwa] at pre post
    refine ⟨d1, pre, ?_⟩
    conv => whnf
    exact qq_wk S post ⟨rfl, rfl, trivial⟩
  · exact h.elim
theorem ha_X6_lay : ∀ As w P, T_X6_lay As w P → qq_wd As ≤ 4 := by
  intro As w P h
  unfold T_X6_lay at h
  split at h
  · exact Nat.le_of_ble_eq_true rfl
  · exact h.elim
theorem hv_X6_lay : ∀ As w P, T_X6_lay As w P → ∃ (k : Nat) (r : List Value) (fs : List Nat), As = .ref k :: r ∧ ww_sh[k]? = some (.inr (6, fs)) := by
  intro As w P h
  unfold T_X6_lay at h
  split at h
  · exact ⟨_, _, _, rfl, rfl⟩
  · exact h.elim
set_option maxRecDepth 100000 in
theorem M_X6_lay (l : Launch) : qq_M l ww_T ww_N vwCl ww_sh ww_ro ww_zs yX6_lay cX6_lay 4 none (ww_rm 6) T_X6_lay := by
  refine qq_mk (host := RX7) (is := ki_X6_lay) (cs := cs_X6_lay) (by decide) ww_k1 wl_X6 ww_so ww_so2 kc_X6_lay kv_X6_lay kg_X6_lay ?_ ha_X6_lay bd_X6_lay
  intro k i q hi hq
  match k, hi, hq with
  | 0, hi, hq => cases hi; cases hq; exact fun p e s m args below meth c D tys tC ad Q pc X hdg => qq_cV (ci := 2) X ww_gd (M_X2_whole l) kf_X2_whole.1 (Or.inl (ww_a4 (i := 56) (w := Cond.methodLink RX6 45 yX2_whole) rfl rfl)) kf_X2_whole.2.1 kf_X2_whole.2.2.1 kf_X2_whole.2.2.2 ⟨by decide, by decide, by decide +kernel⟩ rfl rfl rfl ⟨by decide, by decide⟩ ⟨Nat.le_refl _, Nat.le_refl _⟩ hv_X2_whole hdg
  | 1, hi, hq => cases hi; cases hq; exact fun p e s m args below meth c D tys tC ad Q pc X hdg => qq_cV (ci := 6) X ww_gd (M_X6_moveOutside l) kf_X6_moveOutside.1 (Or.inl (ww_a4 (i := 57) (w := Cond.methodLink RX6 58 yX6_moveOutside) rfl rfl)) kf_X6_moveOutside.2.1 kf_X6_moveOutside.2.2.1 kf_X6_moveOutside.2.2.2 ⟨by decide, by decide, by decide +kernel⟩ rfl rfl rfl ⟨by decide, by decide⟩ ⟨Nat.le_refl _, Nat.le_refl _⟩ hv_X6_moveOutside hdg
  | 2, hi, hq => cases hi; cases hq; exact fun p e s m args below meth c D tys tC ad Q pc X hdg => qq_cV (ci := 6) X ww_gd (M_X6_goBack l) kf_X6_goBack.1 (Or.inl (ww_a4 (i := 67) (w := Cond.methodLink RX6 68 yX6_goBack) rfl rfl)) kf_X6_goBack.2.1 kf_X6_goBack.2.2.1 kf_X6_goBack.2.2.2 ⟨by decide, by decide, by decide +kernel⟩ rfl rfl rfl ⟨by decide, by decide⟩ ⟨Nat.le_refl _, Nat.le_refl _⟩ hv_X6_goBack hdg
  | 3, hi, hq => cases hi; cases hq; exact fun p e s m args below meth c D tys tC ad Q pc X hdg => qq_cV (ci := 6) X ww_gd (M_X6_countOpen l) kf_X6_countOpen.1 (Or.inl (ww_a4 (i := 112) (w := Cond.methodLink RX6 72 yX6_countOpen) rfl rfl)) kf_X6_countOpen.2.1 kf_X6_countOpen.2.2.1 kf_X6_countOpen.2.2.2 ⟨by decide, by decide, by decide +kernel⟩ rfl rfl rfl ⟨by decide, by decide⟩ ⟨Nat.le_refl _, Nat.le_refl _⟩ hv_X6_countOpen hdg
  | n + 4, hi, hq => simp [cs_X6_lay] at hq
