/-- the program and what is solved are as they were -/
def cSP (w w1 : qq_w) : Prop := (∀ q, q ∈ [1, 2, 9, 12, 13, 19, 20] → w1.1 q = w.1 q) ∧ w1.2 17 = w.2 17
theorem cSP_rf {w : qq_w} : cSP w w := ⟨fun _ _ => rfl, rfl⟩
theorem cSP_tr {w w1 w2 : qq_w} (h : cSP w w1) (h2 : cSP w1 w2) : cSP w w2 := ⟨fun q hq => (h2.1 q hq).trans (h.1 q hq), h2.2.trans h.2⟩
theorem cSP_fr {w w1 : qq_w} (h : cFr w w1) : cSP w w1 := ⟨fun q hq => h.1 q (by simp at hq ⊢; omega), h.2.2 17 (by decide)⟩
theorem cX_sp {w w1 : qq_w} (h : cSP w w1) : cX w1 = cX w := by
  funext n j
  unfold cX
  rw [h.1 13 (by simp)]
theorem cPW_sp {w w1 : qq_w} {N : Nat} (h : cSP w w1) (hP : cPW w N) : cPW w1 N := by
  unfold cPW at hP ⊢
  rw [cX_sp h, h.1 1 (by simp), h.1 12 (by simp), h.2]
  exact hP
theorem cOwn_sp {w w1 : qq_w} {N M : Nat} (h : cSP w w1) (hP : cOwn w N M) : cOwn w1 N M := by
  unfold cOwn at hP ⊢
  rw [cX_sp h, h.1 12 (by simp)]
  exact hP
theorem cE0_sp {w w1 : qq_w} {N : Nat} (h : cSP w w1) (hP : cE0 w N) : cE0 w1 N := by
  unfold cE0 at hP ⊢
  rw [cX_sp h, h.1 12 (by simp), h.1 1 (by simp), h.1 20 (by simp)]
  exact hP
theorem cLvO_sp {w w1 : qq_w} {N : Nat} (h : cSP w w1) (hP : cLvO w N) : cLvO w1 N := by
  unfold cLvO at hP ⊢
  rw [cX_sp h, h.1 12 (by simp)]
  exact hP
theorem cEnt_sp {w w1 : qq_w} (h : cSP w w1) : cEnt w1 = cEnt w := by
  funext n d
  unfold cEnt
  rw [h.1 1 (by simp), h.1 12 (by simp), h.1 20 (by simp)]
theorem cStp_sp {w w1 : qq_w} (h : cSP w w1) : cStp w1 = cStp w := by
  funext n e t g
  unfold cStp
  rw [cX_sp h, h.1 19 (by simp), h.2]
theorem cThrR_sp {w w1 : qq_w} (h : cSP w w1) : cThrR w1 = cThrR w := by
  funext c e l g h' r g'
  unfold cThrR
  rw [cX_sp h, h.1 19 (by simp), h.1 12 (by simp)]
theorem cLD_sp {w w1 : qq_w} (h : cSP w w1) : cLD w1 = cLD w := by
  unfold cLD
  rw [cEnt_sp h, cStp_sp h, cThrR_sp h]
theorem cLDc_sp {w w1 : qq_w} (h : cSP w w1) : cLDc w1 = cLDc w := by
  funext c L
  unfold cLDc
  rw [cLD_sp h]
theorem cBegin_sp {w w1 : qq_w} (h : cSP w w1) : cBegin w1 = cBegin w := by
  unfold cBegin
  rw [h.1 2 (by simp), h.1 9 (by simp)]
theorem cBg_sp {w w1 : qq_w} (h : cSP w w1) : cBg w1 = cBg w := by
  funext n f
  unfold cBg
  rw [cBegin_sp h, h.1 12 (by simp)]
theorem cPr_sp {w w1 : qq_w} (h : cSP w w1) : cPr w1 = cPr w := by
  funext n m
  unfold cPr
  rw [cX_sp h, h.1 12 (by simp)]
theorem cGoI_sp {w w1 : qq_w} (h : cSP w w1) : cGoI w1 = cGoI w := by
  funext c f m g
  unfold cGoI
  rw [cX_sp h, h.1 12 (by simp), h.1 19 (by simp)]
theorem cLvK_sp {w w1 : qq_w} (h2 : w1.2 33 = w.2 33) : cLvK w1 = cLvK w := by
  funext N n d f b
  unfold cLvK
  rw [h2]
theorem cWD_sp {w w1 : qq_w} (N : Nat) (h : cSP w w1) (h2 : w1.2 33 = w.2 33) : cWD w1 N = cWD w N := by
  unfold cWD
  rw [cBg_sp h, cPr_sp h, cGoI_sp h, cLvK_sp h2]
theorem cEDc_sp {w w1 : qq_w} (N : Nat) (h : cSP w w1) (h2 : w1.2 33 = w.2 33) : cEDc w1 N = cEDc w N := by
  funext c L
  unfold cEDc
  rw [cWD_sp N h h2, h.1 12 (by simp)]
theorem cCl_sp {w w1 : qq_w} {N : Nat} (h : cSP w w1) (hP : cCl w N) : cCl w1 N := by
  unfold cCl at hP ⊢
  rw [cStp_sp h, cThrR_sp h, cGoI_sp h, cBg_sp h, h.1 20 (by simp)]
  exact hP
theorem cM_sp {w w1 : qq_w} (h : cSP w w1) : cM w1 = cM w := by
  unfold cM
  rw [h.1 1 (by simp)]
def cFp (w : qq_w) (N M : Nat) : Prop := cPW w N ∧ (∀ j, fs (w.1 19 j)) ∧ cOwn w N M ∧ M ≤ 8 ∧ w.1 1 9 = nI M ∧ 0 < M ∧ cE0 w N ∧ cLvO w N ∧ cCl w N
theorem cFp_sp {w w1 : qq_w} {N M : Nat} (h : cSP w w1) (hP : cFp w N M) : cFp w1 N M := by
  obtain ⟨a1, a2, a3, a4, a5, a6, a7, a8, a9⟩ := hP
  exact ⟨cPW_sp h a1, by rw [h.1 19 (by simp)]; exact a2, cOwn_sp h a3, a4, by rw [h.1 1 (by simp)]; exact a5, a6, cE0_sp h a7, cLvO_sp h a8, cCl_sp h a9⟩
abbrev cs_X2_find : List (Nat × qq_t) := [(1, T_X2_offerEnters), (1, T_X4_take), (4, T_X2_goOn), (1, T_X2_findEntries), (1, T_X2_findWholes)]
/-- lengths are found -/
def cFnd (w w' : qq_w) (N M : Nat) : Prop := (∀ q, q ∉ [4, 7, 23, 34, 35] → w'.1 q = w.1 q) ∧ (∀ j, j ≠ 6 → w'.1 4 j = w.1 4 j) ∧ w'.1 4 6 = 1 ∧ (∀ j, j ≠ 3 → w'.1 7 j = w.1 7 j) ∧ (∀ q, q ∉ [22, 24, 33] → w'.2 q = w.2 q) ∧ (∀ n d e, n < N → d < 13 → e < 13 → lMin (w'.2 33 (169 * n + 13 * d + e)) 2000000000000 (cLD w' n d e)) ∧ (∀ n f, n < N → f < 13 → lMin (w'.2 24 (13 * n + f)) 2000000000000 (cWD w' N n f)) ∧ ∀ p d m, p < M → d < 13 → m < N → w'.1 12 p = nI m → lMin (w'.2 22 (13 * p + d)) 2000000000000 (cWD w' N m d)
def T_X2_find : qq_t := fun As w P => match As with
  | [.ref 4] => (w.1 4 6 = 0 → cFp w (qn (w.1 1 10)) (qn (w.1 1 9))) ∧ (¬ w.1 4 6 = 0 → P none w) ∧ (w.1 4 6 = 0 → ∀ w', cFnd w w' (qn (w.1 1 10)) (qn (w.1 1 9)) → P none w')
  | _ => False
theorem fd_69 {P : Option Value → qq_w → Prop} {K : Nat → qq_L → List Value → qq_w → Prop} (S : qq_Sat ww_sh ww_ro cs_X2_find (qq_at 78 kd_X2_find) none P K) {w w1 : qq_w} {N M : Nat} (hp : cFp w N M) (e46 : w.1 4 6 = 1) (hf : cFr w w1) (hO : lOk (w1.2 33) 2000000000000 (cM w1)) (hS : cSnd w1 (cLDc w1)) (h0 : ∀ n d, n < 64 → cEnt w1 n d → w1.2 33 (169 * n + 13 * d + d) = lN 0) (hC1 : clS w1 N) (hC2 : clT w1 N) (hq : ∀ w', cFnd w w' N M → P none w') : K 69 [(0, .ref 4)] [] w1 := by
  have s1 := cSP_fr hf
  have hp1 := cFp_sp s1 hp
  obtain ⟨a1, a2, a3, a4, a5, a6, a7, a8, a9⟩ := hp1
  have hN := a1.2.1
  have q10 := cN_N a1
  have q9 : qn (w1.1 1 9) = M := by rw [a5]; exact qn_nI (by omega)
  have hE1 : ∀ p, p < qn (w1.1 1 9) → ∃ l, l < N ∧ w1.1 12 p = nI l := fun p hp => by
    obtain ⟨l, b1, b2, -⟩ := a7.1 p hp
    exact ⟨l, b1, b2⟩
  refine qq_go_ok S (fun _ => false) 60 ?_
  conv => whnf
  refine ⟨⟨by rw [q10]; exact a1, a2, hO, by rw [q10, q9]; exact a3, i_in 9 a5 (by omega) (by decide), by rw [q10]; exact a7⟩, fun w2 h2 => ?_⟩
  rw [q10, q9] at h2
  obtain ⟨b1, b2, b3, b4, b5, b6⟩ := h2
  have s2 : cSP w1 w2 := ⟨fun q hq => b1 q (by simp at hq; omega), b2 17 (by decide)⟩
  have e33 := b2 33 (by decide)
  have q10' : qn (w2.1 1 10) = N := by rw [s2.1 1 (by simp)]; exact q10
  have q9' : qn (w2.1 1 9) = M := by rw [s2.1 1 (by simp)]; exact q9
  have hO2 : lOk (w2.2 33) 2000000000000 (cM w2) := by rw [cM_sp s2, e33]; exact hO
  conv => whnf
  refine ⟨⟨by rw [q10']; exact cPW_sp s2 a1, hO2, by rw [q9']; exact b3, by rw [s2.1 1 (by simp)]; exact i_in 9 a5 (by omega) (by decide), fun n hn => ?_⟩, fun w3 k1 k2 k3 => ?_⟩
  · rw [q10'] at hn
    obtain ⟨p, m, c1, c2, c3, -⟩ := a3.1 n hn
    exact ⟨p, by rw [q9']; exact c1, by rw [cX_sp s2]; exact c3⟩
  rw [q10'] at k3
  conv => whnf
  have s3 : cSP w2 w3 := ⟨fun q _ => by rw [k1], k2 17 (by decide)⟩
  have s13 := cSP_tr s2 s3
  have e33' : w3.2 33 = w1.2 33 := (k2 33 (by decide)).trans e33
  have e22' : w3.2 22 = w2.2 22 := k2 22 (by decide)
  have hL1 : ∀ n d e, n < N → d < 13 → e < 13 → lMin (w1.2 33 (169 * n + 13 * d + e)) 2000000000000 (cLD w1 n d e) := fun n d e h1 h2 h3 => cL_min a1 a2 hE1 hO hS h0 hC1 hC2 h1 h2 h3
  have hL3 : ∀ n d e, n < N → d < 13 → e < 13 → lMin (w3.2 33 (169 * n + 13 * d + e)) 2000000000000 (cLD w3 n d e) := fun n d e h1 h2 h3 => by
    rw [e33', cLD_sp s13]; exact hL1 n d e h1 h2 h3
  have hp3 := cFp_sp s13 ⟨a1, a2, a3, a4, a5, a6, a7, a8, a9⟩
  obtain ⟨d1, d2, d3, d4, d5, d6, d7, d8, d9⟩ := hp3
  have hby : ∀ n d e, cBy w3 n d e = cBy w2 n d e := fun n d e => cBy_e k1 k2 n d e
  have hW := cW_min (w := w3) d1 d2 d3 d4 d5 d6 d7 d9 (by rw [cM_sp s3, k2 33 (by decide)]; exact hO2) hL3 (by rw [e22']; exact b3) (by rw [e22', cEDc_sp N s13 e33']; exact b4) (fun f hf hb => by rw [e22']; exact b5 f hf a6 (by rw [cBegin_sp s13] at hb; exact hb)) (fun p d a hp hd ea ha c e hc he => ?_) (fun n e hn he => ?_)
  · refine hq w3 ⟨fun q hq => ?_, fun j hj => ?_, ?_, fun j hj => ?_, fun q hq => ?_, hL3, hW.1, hW.2⟩
    · rw [k1, b1 q (by simp at hq; omega), hf.1 q (by simp at hq ⊢; omega)]
    · rw [k1, b1 4 (by decide), hf.1 4 (by simp)]
    · rw [k1, b1 4 (by decide), hf.1 4 (by simp)]; exact e46
    · rw [k1, b1 7 (by decide)]; exact hf.2.1 j hj
    · rw [k2 q (by simp at hq; omega), b2 q (by simp at hq; omega)]
      exact hf.2.2 q (by simp at hq; omega)
  · rw [e22'] at ea
    have := b6 p d a hp hd ea ha c e hc he
    unfold eClC at this ⊢
    rw [cX_sp s13, e33', s13.1 19 (by simp), e22']
    exact this
  · have := k3 n e hn he
    unfold wMn at this ⊢
    simp only [hby]
    exact this
/-- lengths under way -/
def dSt (w : qq_w) (N : Nat) (w1 : qq_w) : Prop := cFr w w1 ∧ cDj w1 N ∧ (∀ n d, n < 64 → cEnt w n d → w1.2 33 (169 * n + 13 * d + d) = lN 0) ∧ (∀ c, c < 169 * N → cIn w1 c → lq (w1.2 33 c) ≤ 1000000000000) ∧ (∃ b, (∀ c, c < 169 * N → ¬ cIn w1 c → lq (w1.2 33 c) ≤ 1000000000000 → lq (w1.2 33 c) ≤ b) ∧ ∀ c, c < 169 * N → cIn w1 c → b ≤ lq (w1.2 33 c)) ∧ (∀ n d e a, n < N → d < 13 → e < 13 → ¬ cIn w1 (169 * n + 13 * d + e) → w1.2 33 (169 * n + 13 * d + e) = lN a → a ≤ 1000000000000 → ∀ t g, t < 64 → cStp w n e t g → lq (w1.2 33 (169 * t + 13 * d + g)) ≤ lcap (a + 1)) ∧ ∀ c d e l g h r g' a b, c < N → d < 13 → e < 13 → l < 64 → r < 64 → h < 13 → cThrR w c e l g h r g' → ¬ cIn w1 (169 * c + 13 * d + e) → w1.2 33 (169 * c + 13 * d + e) = lN a → a ≤ 1000000000000 → ¬ cIn w1 (169 * l + 13 * g + h) → w1.2 33 (169 * l + 13 * g + h) = lN b → b ≤ 1000000000000 → lq (w1.2 33 (169 * r + 13 * d + g')) ≤ lcap (a + b + 2)
theorem dSt_end {P : Option Value → qq_w → Prop} {K : Nat → qq_L → List Value → qq_w → Prop} (S : qq_Sat ww_sh ww_ro cs_X2_find (qq_at 78 kd_X2_find) none P K) {w w1 : qq_w} {N M : Nat} (hp : cFp w N M) (e46 : w.1 4 6 = 1) (h : dSt w N w1) (hno : ∀ c, c < 169 * N → ¬ cIn w1 c) (hq : ∀ w', cFnd w w' N M → P none w') : K 69 [(0, .ref 4)] [] w1 := by
  obtain ⟨a1, a2, a3, a4, a5, a6, a7⟩ := h
  have hN := a2.1.2.1
  refine fd_69 S hp e46 a1 a2.2.2.2.1 a2.2.2.2.2 (fun n d hn he => a3 n d hn (by rw [cEnt_fr a1] at he; exact he)) (fun n d e a hn hd he ea ha t g ht hs => ?_) (fun c d e l g h r g' a b hc hd he hl hr hh ht ea ha eb hb => ?_) hq
  · rw [cStp_fr a1] at hs
    exact a6 n d e a hn hd he (hno _ (by omega)) ea ha t g ht hs
  · rw [cThrR_fr a1] at ht
    obtain ⟨p, r', l', q1, q2, q3, q4, q5, q6, -⟩ := hp.1.2.2.1 c hc ht.1
    have hlN : l = l' + 1 := by
      have z := ht.2.1
      rw [q4, qn_nI (by omega), q6] at z
      have z' : nI l' + 1 = nI (l' + 1) := i_s rfl
      rw [z'] at z
      exact (nI_eq (by omega) (by omega)).mp z.symm
    have hg := fs_lt (hp.2.1 _) ht.2.2.2.1
    exact a7 c d e l g h r g' a b hc hd he hl hr hh ht (hno _ (by omega)) ea ha (hno _ (by omega)) eb hb
theorem fd_19 {P : Option Value → qq_w → Prop} {K : Nat → qq_L → List Value → qq_w → Prop} (S : qq_Sat ww_sh ww_ro cs_X2_find (qq_at 78 kd_X2_find) none P K) {w : qq_w} {N M : Nat} (hp : cFp w N M) (e46 : w.1 4 6 = 1) (hq : ∀ w', cFnd w w' N M → P none w') :
    ∀ m i, i + m = 10816 → ∀ (x1 : Int32) (w1 : qq_w), x1 = nI i → dSt w N w1 → (∃ t : Nat → Nat, (∀ k, k < i → t k < 169 * N ∧ ¬ cIn w1 (t k) ∧ lq (w1.2 33 (t k)) ≤ 1000000000000) ∧ ∀ k k', k < i → k' < i → t k = t k' → k = k') → K 19 [(0, .ref 4), (1, .int x1)] [] w1 := by
  have hN := hp.1.2.1
  intro m
  induction m with
  | zero =>
    intro i hi x1 w1 e1 h1 ht
    have : i = 10816 := by omega
    refine qq_go_ok S (fun pc => Nat.beq pc 69) 60 ?_
    conv => whnf
    refine br_t (i_ge 10816 e1 (by omega) (by omega)) ?_
    conv => whnf
    refine qq_wk S (dSt_end S hp e46 h1 (fun c hc z => ?_) hq) ⟨rfl, trivial⟩
    obtain ⟨t, t1, t2⟩ := ht
    have := pg_le (169 * N) (i + 1) (fun k => if k < i then t k else c) (fun k hk => ?_) (fun k k' hk hk' e => ?_)
    · omega
    · show (if k < i then t k else c) < 169 * N
      split
      · rename_i y
        exact (t1 k y).1
      · omega
    · have e : (if k < i then t k else c) = (if k' < i then t k' else c) := e
      by_cases y : k < i
      · rw [if_pos y] at e
        by_cases y' : k' < i
        · rw [if_pos y'] at e
          exact t2 k k' y y' e
        · rw [if_neg y'] at e
          exact absurd (by rw [e]; exact z) (t1 k y).2.1
      · rw [if_neg y] at e
        by_cases y' : k' < i
        · rw [if_pos y'] at e
          exact absurd (by rw [← e]; exact z) (t1 k' y').2.1
        · omega
  | succ m ih =>
    intro i hi x1 w1 e1 h1 ht
    have h1' := h1
    obtain ⟨a1, a2, a3, a4, ⟨b, a5, a5'⟩, a6, a7⟩ := h1
    have hM1 : cM w1 = 169 * N := cM_N a2.1
    refine qq_go_ok S (fun pc => Nat.beq pc 69 || Nat.beq pc 19) 60 ?_
    conv => whnf
    refine br_f (i_nge 10816 e1 (by omega) (by omega)) ?_
    conv => whnf
    refine ⟨⟨a2.2.2.1, a2.2.2.2.1⟩, fun z1 z2 => ?_, fun z1 => ?_⟩
    · rw [hM1] at z2
      conv => whnf
      refine br_nf rfl ?_
      conv => whnf
      exact qq_wk S (dSt_end S hp e46 h1' z2 hq) ⟨rfl, trivial⟩
    · intro c0 w2 hc0 hin0 hmin hf2 e2 hH2 hIn2
      rw [hM1] at hc0 hmin hIn2
      obtain ⟨V, eV, hV⟩ := a2.2.2.2.1 c0 (by rw [hM1]; exact hc0)
      have hVk : V ≤ 1000000000000 := by
        have := a4 c0 hc0 hin0
        rw [eV, lq_lN (by omega)] at this
        exact this
      have d9 := r_div169 (x := nI c0) rfl (by omega)
      have d13 := r_div (x := nI c0) rfl (by omega)
      have d10 := r_rem d13 (by omega)
      have d11 := r_rem (x := nI c0) rfl (by omega)
      have ex : 169 * (c0 / 169) + 13 * (c0 / 13 % 13) + c0 % 13 = c0 := by omega
      have q9 : qn (nI c0 / 169) = c0 / 169 := by rw [d9]; exact qn_nI (by omega)
      have q10 : qn (nI c0 / 13 - nI c0 / 13 / 13 * 13) = c0 / 13 % 13 := by rw [d10]; exact qn_nI (by omega)
      have q11 : qn (nI c0 - nI c0 / 13 * 13) = c0 % 13 := by rw [d11]; exact qn_nI (by omega)
      have hM2 : cM w2 = 169 * N := by rw [cM_fr hf2]; exact hM1
      have hj2 : cDj w2 N := ⟨cPW_fr hf2 a2.1, by rw [hf2.1 19 (by simp)]; exact a2.2.1, hH2, by rw [hM2, e2, ← hM1]; exact a2.2.2.2.1, by
        rw [cLDc_fr hf2]
        intro c L hc
        rw [e2]
        exact a2.2.2.2.2 c L (by rw [hM1, ← hM2]; exact hc)⟩
      have hlv2 : cLvO w2 N := cLvO_sp (cSP_tr (cSP_fr a1) (cSP_fr hf2)) hp.2.2.2.2.2.2.2.1
      have eN2 : qn (w2.1 1 10) = N := cN_N hj2.1
      have hnin : ¬ cIn w2 c0 := fun y => ((hIn2 c0 hc0).mp y).2 rfl
      have hf02 := cFr_tr a1 hf2
      have hgo : T_X2_goOn [.ref 4, .int (nI c0 / 169), .int (nI c0 / 13 - nI c0 / 13 / 13 * 13), .int (nI c0 - nI c0 / 13 * 13)] w2 (fun _ w' => K 19 [(0, .ref 4), (1, .int (x1 + 1))] [] w') := by
        refine ⟨V, ⟨i_in 64 d9 (by omega) (by decide), i_in 13 d10 (by omega) (by decide), i_in 13 d11 (by omega) (by decide), by rw [eN2]; exact hj2, by rw [eN2]; exact hlv2, by rw [eN2, q9]; omega, by rw [q9, q10, q11, ex, e2]; exact eV, hVk, by rw [q9, q10, q11, ex]; exact hnin⟩, fun w3 k1 k2 k3 k4 => ?_⟩
        rw [q9, q10, q11] at k2 k3 k4
        rw [show cLDc w2 = cLDc w from cLDc_fr hf02] at k1
        have hle : ∀ c, c < 169 * N → lq (w3.2 33 c) ≤ lq (w1.2 33 c) := fun c hc => by
          have := cRl_le k1 (c := c) (by rw [hM2]; exact hc)
          rw [e2] at this
          exact this
        have hbV : b ≤ V := by
          have := a5' c0 hc0 hin0
          rw [eV, lq_lN (by omega)] at this
          exact this
        have hfr3 := cFr_tr hf02 k1.1
        have hM3 : cM w3 = 169 * N := by rw [cM_fr k1.1]; exact hM2
        -- what is taken stays
        have st : ∀ c, c < 169 * N → ¬ cIn w3 c → (w3.2 33 c = w1.2 33 c ∧ ¬ cIn w2 c) := fun c hc hn => by
          rcases k1.2.2 c (by rw [hM2]; exact hc) with ⟨z, z2⟩ | ⟨L, -, -, -, -, z5, -⟩
          · exact ⟨by rw [z, e2], fun y => hn (z2.mpr y)⟩
          · exact absurd z5 hn
        have ou : ∀ c, c < 169 * N → ¬ cIn w2 c → ¬ cIn w1 c ∨ c = c0 := fun c hc hn => by
          by_cases q : c = c0
          · exact Or.inr q
          · exact Or.inl fun y => hn ((hIn2 c hc).mpr ⟨y, q⟩)
        have tk : ∀ c a, c < 169 * N → ¬ cIn w3 c → w3.2 33 c = lN a → a ≤ 1000000000000 → w1.2 33 c = lN a ∧ a ≤ V ∧ ¬ cIn w2 c ∧ (¬ cIn w1 c ∨ c = c0) := fun c a hc hn ea ha => by
          obtain ⟨s1, s2⟩ := st c hc hn
          rw [s1] at ea
          have s3 := ou c hc s2
          refine ⟨ea, ?_, s2, s3⟩
          rcases s3 with y | y
          · have := a5 c hc y (by rw [ea, lq_lN (by omega)]; exact ha)
            rw [ea, lq_lN (by omega)] at this
            omega
          · rw [y, eV] at ea
            have := (lL_eq (by omega) (by omega)).mp ea
            omega
        refine ih (i + 1) (by omega) _ w3 (i_s e1) ⟨hfr3, ?_, ?_, ?_, ⟨V, ?_, ?_⟩, ?_, ?_⟩ ?_
        · refine cDj_go hj2 (v := V) ?_
          rw [show cLDc w2 = cLDc w from cLDc_fr hf02]
          exact k1
        · intro n d hn he
          have he' := he
          obtain ⟨q1, ⟨p, q2, q3⟩, q4⟩ := he
          obtain ⟨l, hl, el, -⟩ := hp.2.2.2.2.2.2.1.1 p q2
          have : n = l := (nI_eq (by omega) (by omega)).mp (q3.symm.trans el)
          subst this
          have z0 := a3 n d hn he'
          rcases k1.2.2 (169 * n + 13 * d + d) (by rw [hM2]; omega) with ⟨z, -⟩ | ⟨L, -, -, -, z4, -⟩
          · rw [z, e2]; exact z0
          · rw [e2, z0, lq_lN (by omega)] at z4
            exact absurd z4 (Nat.not_lt_zero _)
        · intro c hc hn
          rcases k1.2.2 c (by rw [hM2]; exact hc) with ⟨z, z2⟩ | ⟨L, z1, z2, z3, -⟩
          · rw [z, e2]
            exact a4 c hc ((hIn2 c hc).mp (z2.mp hn)).1
          · rw [z3, lq_lN (by omega)]; exact z2
        · intro c hc hn hk
          obtain ⟨a', ea', ha'⟩ := cRl_ok k1 hj2.2.2.2.1 c (by rw [hM3]; exact hc)
          rw [ea', lq_lN (by omega)] at hk ⊢
          exact (tk c a' hc hn ea' hk).2.1
        · intro c hc hn
          rcases k1.2.2 c (by rw [hM2]; exact hc) with ⟨z, z2⟩ | ⟨L, z1, z2, z3, -⟩
          · rw [z, e2]
            have := hmin c hc ((hIn2 c hc).mp (z2.mp hn)).1
            rw [eV, lq_lN (by omega)] at this
            exact this
          · rw [z3, lq_lN (by omega)]; exact z1
        · intro n d e a hn hd he hni ea ha t g ht hs
          obtain ⟨u1, u2, u3, u4⟩ := tk _ a (by omega) hni ea ha
          have hg := fs_lt (hp.2.1 _) hs.2
          rcases u4 with y | y
          · have htN : t < N := by
              rcases hs.1 with ⟨-, -, k⟩ | ⟨k1, k2⟩
              · exact hp.1.2.2.2 n t hn k
              · obtain ⟨p, r, l, y1, y2, y3, y4, y5, -⟩ := hp.1.2.2.1 n hn k1
                have : t = r := (nI_eq (by omega) (by omega)).mp (k2.symm.trans y5)
                omega
            exact Nat.le_trans (hle _ (by omega)) (a6 n d e a hn hd he y u1 ha t g ht hs)
          · have : n = c0 / 169 := by omega
            subst this
            have : d = c0 / 13 % 13 := by omega
            subst this
            have : e = c0 % 13 := by omega
            subst this
            rw [y, eV] at u1
            have := (lL_eq (by omega) (by omega)).mp u1
            subst this
            exact k2 t g ht (by rw [cStp_fr hf02]; exact hs)
        · intro c d e l g h r g' a b' hc hd he hl hr hh hth hn1 ea ha hn2 eb hb
          obtain ⟨p, r', l', q1, q2, q3, q4, q5, q6, -⟩ := hp.1.2.2.1 c hc hth.1
          have hlN : l = l' + 1 := by
            have z := hth.2.1
            rw [q4, qn_nI (by omega), q6] at z
            have z' : nI l' + 1 = nI (l' + 1) := i_s rfl
            rw [z'] at z
            exact (nI_eq (by omega) (by omega)).mp z.symm
          have hrN : r = r' := (nI_eq (by omega) (by omega)).mp (hth.2.2.1.symm.trans q5)
          have hg := fs_lt (hp.2.1 _) hth.2.2.2.1
          have hg' := fs_lt (hp.2.1 _) hth.2.2.2.2
          have hth2 : cThrR w2 c e l g h r g' := by rw [cThrR_fr hf02]; exact hth
          obtain ⟨u1, u2, u3, u4⟩ := tk _ a (by omega) hn1 ea ha
          obtain ⟨v1, v2, v3, v4⟩ := tk _ b' (by omega) hn2 eb hb
          rcases u4 with y | y
          · rcases v4 with y' | y'
            · exact Nat.le_trans (hle _ (by omega)) (a7 c d e l g h r g' a b' hc hd he hl hr hh hth y u1 ha y' v1 hb)
            · have : l = c0 / 169 := by omega
              subst this
              have : g = c0 / 13 % 13 := by omega
              subst this
              have : h = c0 % 13 := by omega
              subst this
              rw [y', eV] at v1
              have := (lL_eq (by omega) (by omega)).mp v1
              subst this
              exact k4 c d e r g' a (by rw [eN2]; exact hc) hr hd he hth2 u3 (by rw [e2]; exact u1) u2
          · have : c = c0 / 169 := by omega
            subst this
            have : d = c0 / 13 % 13 := by omega
            subst this
            have : e = c0 % 13 := by omega
            subst this
            rw [y, eV] at u1
            have := (lL_eq (by omega) (by omega)).mp u1
            subst this
            exact k3 l g h r g' b' hl hr hh hth2 v3 (by rw [e2]; exact v1) v2
        · obtain ⟨t, t1, t2⟩ := ht
          have pp : ∀ c, c < 169 * N → ¬ cIn w2 c → lq (w1.2 33 c) ≤ V → ¬ cIn w3 c ∧ w3.2 33 c = w1.2 33 c := fun c hc hn hl => by
            have := cRl_pop k1 (c := c) (by rw [hM2]; exact hc) hn (by rw [e2]; exact hl)
            rw [e2] at this
            exact ⟨this.2, this.1⟩
          refine ⟨fun k => if k < i then t k else c0, fun k hk => ?_, fun k k' hk hk' e => ?_⟩
          · show (if k < i then t k else c0) < _ ∧ ¬ cIn w3 (if k < i then t k else c0) ∧ lq (w3.2 33 (if k < i then t k else c0)) ≤ _
            by_cases y : k < i
            · rw [if_pos y]
              obtain ⟨s1, s2, s3⟩ := t1 k y
              have hb := a5 _ s1 s2 s3
              obtain ⟨r1, r2⟩ := pp (t k) s1 (fun u => s2 ((hIn2 _ s1).mp u).1) (by omega)
              exact ⟨s1, r1, by rw [r2]; exact s3⟩
            · rw [if_neg y]
              obtain ⟨r1, r2⟩ := pp c0 hc0 hnin (by rw [eV, lq_lN (by omega)]; exact Nat.le_refl _)
              exact ⟨hc0, r1, by rw [r2, eV, lq_lN (by omega)]; exact hVk⟩
          · have e : (if k < i then t k else c0) = (if k' < i then t k' else c0) := e
            by_cases y : k < i
            · rw [if_pos y] at e
              by_cases y' : k' < i
              · rw [if_pos y'] at e
                exact t2 k k' y y' e
              · rw [if_neg y'] at e
                exact absurd (by rw [e]; exact hin0) (t1 k y).2.1
            · rw [if_neg y] at e
              by_cases y' : k' < i
              · rw [if_pos y'] at e
                exact absurd (by rw [← e]; exact hin0) (t1 k' y').2.1
              · omega
      conv => whnf
      refine br_nt (nI_m5 (by omega)) ?_
      conv => whnf
      refine ⟨by decide, ?_⟩
      conv => whnf
      refine ⟨by decide, ?_⟩
      conv => whnf
      refine ⟨by decide, ?_⟩
      conv => whnf
      refine ⟨by decide, ?_⟩
      conv => whnf
      obtain ⟨V', pre, post⟩ := hgo
      refine ⟨V', pre, fun w' c1 c2 c3 c4 => ?_⟩
      have key := post w' c1 c2 c3 c4
      conv => whnf
      exact qq_wk S key ⟨rfl, rfl, trivial⟩
set_option maxHeartbeats 4000000 in
set_option maxRecDepth 100000 in
theorem bd_X2_find : ∀ As w P K, qq_Sat ww_sh ww_ro cs_X2_find (qq_at 78 kd_X2_find) none P K → T_X2_find As w P → K 0 (lv_args 0 As) [] w := by
  intro As w P K S h
  unfold T_X2_find at h
  split at h
  · skip
    obtain ⟨hpre, hq1, hq0⟩ := h
    refine qq_go_ok S (fun pc => Nat.beq pc 19) 60 ?_
    conv => whnf
    refine ⟨fun h => ?_, fun h => ?_⟩
    · have h : w.1 4 6 = 0 := h
      have hq0 := hq0 h
      have hp0 := hpre h
      conv => whnf
      refine ⟨Or.inr rfl, ?_⟩
      conv => whnf
      generalize hwa : qq_ui w 4 6 1 = wa
      have o4 : ∀ j, j ≠ 6 → wa.1 4 j = w.1 4 j := fun j hj => by
        rw [← hwa]
        show upd (w.1 4) 6 1 j = _
        rw [upd_at, if_neg hj]
      have oo : ∀ q, q ≠ 4 → wa.1 q = w.1 q := fun q hq => by
        rw [← hwa]
        simp only [qq_ui, va_up, hq, if_false]
      have o2 : wa.2 = w.2 := by rw [← hwa]; rfl
      have e46 : wa.1 4 6 = 1 := by rw [← hwa]; rfl
      have sp : cSP w wa := ⟨fun q hq => oo q (by simp at hq; omega), by rw [o2]⟩
      have hp := cFp_sp sp hp0
      have hN := hp.1.2.1
      have q10 : qn (wa.1 1 10) = qn (w.1 1 10) := by rw [oo 1 (by decide)]
      have e9 : wa.1 1 9 = nI (qn (w.1 1 9)) := hp.2.2.2.2.1
      have hM8 := hp.2.2.2.1
      have hoe : T_X2_offerEnters [.ref 4] wa (fun _ w' => K 19 [(0, .ref 4), (1, .int 0)] [] w') := by
        refine ⟨⟨by rw [q10]; exact hp.1, i_in 9 e9 (by omega) (by decide), by rw [q10]; exact hp.2.2.2.2.2.2.1⟩, fun w1 h1 => ?_⟩
        obtain ⟨c1, c2, c3⟩ := h1
        have hM1 : cM wa = 169 * qn (w.1 1 10) := cM_N hp.1
        have hM1' : cM w1 = 169 * qn (w.1 1 10) := by rw [cM_fr c1]; exact hM1
        rw [hM1] at c3
        refine fd_19 S hp e46 (fun w' hw' => hq0 w' ?_) 10816 0 rfl _ w1 rfl ⟨c1, ⟨cPW_fr c1 hp.1, by rw [c1.1 19 (by simp)]; exact hp.2.1, c2, ?_, ?_⟩, ?_, ?_, ⟨0, ?_, fun _ _ _ => Nat.zero_le _⟩, ?_, ?_⟩ ⟨fun _ => 0, fun k hk => absurd hk (by omega), fun k k' hk => absurd hk (by omega)⟩
        · obtain ⟨f1, f2, f3, f4, f5, f6, f7, f8⟩ := hw'
          refine ⟨fun q hq => ?_, fun j hj => (f2 j hj).trans (o4 j hj), f3, fun j hj => ?_, fun q hq => by rw [f5 q hq, o2], f6, f7, f8⟩
          · rw [f1 q hq, oo q (by simp at hq; omega)]
          · rw [f4 j hj, oo 7 (by decide)]
        · intro c hc
          rw [hM1'] at hc
          rcases c3 c hc with ⟨-, z, -⟩ | ⟨-, z, -⟩
          · exact ⟨0, z, Or.inl (by omega)⟩
          · exact ⟨_, z, Or.inr rfl⟩
        · rw [cLDc_fr c1]
          intro c L hc e hL
          rw [hM1'] at hc
          rcases c3 c hc with ⟨⟨n, d, z1, z2, z3⟩, z, -⟩ | ⟨-, z, -⟩
          · rw [z] at e
            have : 0 = L := (lL_eq (by omega) (by omega)).mp e
            subst this
            exact ⟨n, d, d, z2.1, z2.1, z3, LDer.ent z2 z1⟩
          · rw [z] at e
            have := (lL_eq (by omega) (by omega)).mp e
            omega
        · intro n d hn he
          have he' := he
          obtain ⟨q1, ⟨p, q2, q3⟩, q4⟩ := he'
          obtain ⟨l, hl, el, -⟩ := hp.2.2.2.2.2.2.1.1 p q2
          have : n = l := (nI_eq (by omega) (by omega)).mp (q3.symm.trans el)
          subst this
          rcases c3 (169 * n + 13 * d + d) (by omega) with ⟨-, z, -⟩ | ⟨z, -⟩
          · exact z
          · exact absurd ⟨n, d, hn, he, rfl⟩ z
        · intro c hc hn
          rcases c3 c hc with ⟨-, z, -⟩ | ⟨-, -, z⟩
          · rw [z, lq_lN (by omega)]; omega
          · exact absurd hn z
        · intro c hc hn hk
          rcases c3 c hc with ⟨-, -, z⟩ | ⟨-, z, -⟩
          · exact absurd z hn
          · rw [z, lq_lN (by omega)] at hk; omega
        · intro n d e a hn hd he hni ea ha
          rcases c3 (169 * n + 13 * d + e) (by omega) with ⟨-, -, z⟩ | ⟨-, z, -⟩
          · exact absurd z hni
          · rw [z] at ea
            have := (lL_eq (by omega) (by omega)).mp ea
            omega
        · intro c d e l g h r g' a b hc hd he hl hr hh hth hni ea ha
          rcases c3 (169 * c + 13 * d + e) (by omega) with ⟨-, -, z⟩ | ⟨-, z, -⟩
          · exact absurd z hni
          · rw [z] at ea
            have := (lL_eq (by omega) (by omega)).mp ea
            omega
      obtain ⟨pre, post⟩ := hoe
      refine ⟨pre, fun w' hw' => ?_⟩
      have key := post w' hw'
      conv => whnf
      exact qq_wk S key ⟨rfl, rfl, trivial⟩
    · conv => whnf
      exact hq1 h
  · exact h.elim
theorem ha_X2_find : ∀ As w P, T_X2_find As w P → qq_wd As ≤ 3 := by
  intro As w P h
  unfold T_X2_find at h
  split at h
  · exact Nat.le_of_ble_eq_true rfl
  · exact h.elim
theorem hv_X2_find : ∀ As w P, T_X2_find As w P → ∃ (k : Nat) (r : List Value) (fs : List Nat), As = .ref k :: r ∧ ww_sh[k]? = some (.inr (2, fs)) := by
  intro As w P h
  unfold T_X2_find at h
  split at h
  · exact ⟨_, _, _, rfl, rfl⟩
  · exact h.elim
set_option maxRecDepth 100000 in
theorem M_X2_find (l : Launch) : qq_M l ww_T ww_N vwCl ww_sh ww_ro ww_zs yX2_find cX2_find 3 none (ww_rm 6) T_X2_find := by
  refine qq_mk (host := RX7) (is := ki_X2_find) (cs := cs_X2_find) (by decide) ww_k1 wl_X2 ww_so ww_so2 kc_X2_find kv_X2_find kg_X2_find ?_ ha_X2_find bd_X2_find
  intro k i q hi hq
  match k, hi, hq with
  | 0, hi, hq => cases hi; cases hq; exact fun p e s m args below meth c D tys tC ad Q pc X hdg => qq_cV (ci := 2) X ww_gd (M_X2_offerEnters l) kf_X2_offerEnters.1 (Or.inl (ww_a3 (i := 181) (w := Cond.methodLink RX2 44 yX2_offerEnters) rfl rfl)) kf_X2_offerEnters.2.1 kf_X2_offerEnters.2.2.1 kf_X2_offerEnters.2.2.2 ⟨by decide, by decide, by decide +kernel⟩ rfl rfl rfl ⟨by decide, by decide⟩ ⟨Nat.le_refl _, Nat.le_refl _⟩ hv_X2_offerEnters hdg
  | 1, hi, hq => cases hi; cases hq; exact fun p e s m args below meth c D tys tC ad Q pc X hdg => qq_cV (ci := 4) X ww_gd (M_X4_take l) kf_X4_take.1 (Or.inl (ww_a3 (i := 208) (w := Cond.methodLink RX2 47 yX4_take) rfl rfl)) kf_X4_take.2.1 kf_X4_take.2.2.1 kf_X4_take.2.2.2 ⟨by decide, by decide, by decide +kernel⟩ rfl rfl rfl ⟨by decide, by decide⟩ ⟨Nat.le_refl _, Nat.le_refl _⟩ hv_X4_take hdg
  | 2, hi, hq => cases hi; cases hq; exact fun p e s m args below meth c D tys tC ad Q pc X hdg => qq_cV (ci := 2) X ww_gd (M_X2_goOn l) kf_X2_goOn.1 (Or.inl (ww_a3 (i := 216) (w := Cond.methodLink RX2 51 yX2_goOn) rfl rfl)) kf_X2_goOn.2.1 kf_X2_goOn.2.2.1 kf_X2_goOn.2.2.2 ⟨by decide, by decide, by decide +kernel⟩ rfl rfl rfl ⟨by decide, by decide⟩ ⟨Nat.le_refl _, Nat.le_refl _⟩ hv_X2_goOn hdg
  | 3, hi, hq => cases hi; cases hq; exact fun p e s m args below meth c D tys tC ad Q pc X hdg => qq_cV (ci := 2) X ww_gd (M_X2_findEntries l) kf_X2_findEntries.1 (Or.inl (ww_a4 (i := 10) (w := Cond.methodLink RX2 55 yX2_findEntries) rfl rfl)) kf_X2_findEntries.2.1 kf_X2_findEntries.2.2.1 kf_X2_findEntries.2.2.2 ⟨by decide, by decide, by decide +kernel⟩ rfl rfl rfl ⟨by decide, by decide⟩ ⟨Nat.le_refl _, Nat.le_refl _⟩ hv_X2_findEntries hdg
  | 4, hi, hq => cases hi; cases hq; exact fun p e s m args below meth c D tys tC ad Q pc X hdg => qq_cV (ci := 2) X ww_gd (M_X2_findWholes l) kf_X2_findWholes.1 (Or.inl (ww_a4 (i := 35) (w := Cond.methodLink RX2 58 yX2_findWholes) rfl rfl)) kf_X2_findWholes.2.1 kf_X2_findWholes.2.2.1 kf_X2_findWholes.2.2.2 ⟨by decide, by decide, by decide +kernel⟩ rfl rfl rfl ⟨by decide, by decide⟩ ⟨Nat.le_refl _, Nat.le_refl _⟩ hv_X2_findWholes hdg
  | n + 5, hi, hq => simp [cs_X2_find] at hq
