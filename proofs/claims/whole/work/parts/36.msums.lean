/-- bits of y that x lacks -/
def pnew (x y : Int32) : Nat → Nat
  | 0 => 0
  | n + 1 => pnew x y n + (if bt y n = true ∧ ¬ bt x n = true then 1 else 0)
theorem pcb_or (x y : Int32) : ∀ n, pcb (x ||| y) n = pcb x n + pnew x y n
  | 0 => rfl
  | n + 1 => by
    unfold pcb pnew
    rw [pcb_or x y n, b_or]
    cases bt x n <;> cases bt y n <;> simp <;> omega
theorem pnew_le (x y : Int32) : ∀ n, pnew x y n ≤ n
  | 0 => Nat.le_refl 0
  | n + 1 => by
    have := pnew_le x y n
    unfold pnew
    split <;> omega
theorem cCount_out (f : Nat → Int32) (k : Nat) (v : Int32) : ∀ n, n ≤ k → cCount (upd f k v) n = cCount f n
  | 0, _ => rfl
  | n + 1, h => by
    unfold cCount
    rw [cCount_out f k v n (by omega), upd_at, if_neg (by omega)]
theorem cCount_upd (f : Nat → Int32) (k : Nat) (v : Int32) : ∀ n, k < n → cCount (upd f k v) n + pcb (f k) 13 = cCount f n + pcb v 13
  | 0, h => absurd h (by omega)
  | n + 1, h => by
    unfold cCount
    by_cases e : k = n
    · subst e
      rw [cCount_out f k v k (Nat.le_refl k), upd_at, if_pos rfl]
      omega
    · have := cCount_upd f k v n (by omega)
      rw [upd_at, if_neg (by omega)]
      omega
/-- the reference's count of summaries is as its rows are -/
def mSI (w : qq_w) : Prop := w.1 8 35 = nI (cCount (w.1 57) 832)
abbrev cs_X8_sumsUp : List (Nat × qq_t) := []
def T_X8_sumsUp : qq_t := fun As w P => match As with
  | [.ref 8, .int c, .int f, .int x] => (vp_in c 64 ∧ vp_in f 13 ∧ mSI w) ∧ ∀ w', (qq_only [8, 57] w w' ∧ (∀ j, j ≠ 35 → w'.1 8 j = w.1 8 j) ∧ w'.1 57 = upd (w.1 57) (13 * qn c + qn f) (w.1 57 (13 * qn c + qn f) ||| x) ∧ mSI w') → P none w'
  | _ => False
theorem lp_sumsUp {P : Option Value → qq_w → Prop} {K : Nat → qq_L → List Value → qq_w → Prop} (S : qq_Sat ww_sh ww_ro cs_X8_sumsUp (qq_at 75 kd_X8_sumsUp) none P K) {w : qq_w} {c f x : Int32} {k B n j : Nat} (hc : c = nI n) (hn : n < 64) (hf : f = nI j) (hj : j < 13) (hk : k = 13 * n + j) (hB : B = cCount (w.1 57) 832) (hI : w.1 8 35 = nI B)
    (hq : ∀ w', (qq_only [8, 57] w w' ∧ (∀ j, j ≠ 35 → w'.1 8 j = w.1 8 j) ∧ w'.1 57 = upd (w.1 57) k (w.1 57 k ||| x) ∧ mSI w') → P none w') :
    ∀ m i, i + m = 13 → ∀ (x4 : Int32) (w1 : qq_w), x4 = nI i → qq_only [8] w w1 → w1.1 8 = upd (w.1 8) 35 (nI (B + pnew (w.1 57 k) x i)) → K 3 [(0, .ref 8), (1, .int c), (2, .int f), (3, .int x), (4, .int x4)] [] w1 := by
  have hBle : B ≤ 10816 := by rw [hB]; exact cCount_le (w.1 57) 832
  have ek : (13 : Int32) * c + f = nI k := by rw [hk]; exact nI_mr hc hf (nI_lit 13)
  have ck := i_c ek (by omega)
  intro m
  induction m with
  | zero =>
    intro i hi x4 w1 e4 h1 h2
    have : i = 13 := by omega
    subst this
    have o57 : w1.1 57 = w.1 57 := h1.2 57 (by simp)
    refine qq_go_ok S (fun pc => Nat.beq pc 3) 60 ?_
    conv => whnf
    refine br_t (i_ge 13 e4 (by omega) (by omega)) ?_
    conv => whnf
    refine ⟨i_in 832 ek (by omega) (by decide), ?_⟩
    conv => whnf
    refine ⟨i_in 832 ek (by omega) (by decide), ?_⟩
    conv => whnf
    have r57 : (qq_ui w1 57 ((13 : Int32) * c + f).toNatClampNeg (w1.1 57 ((13 : Int32) * c + f).toNatClampNeg ||| x)).1 57 = upd (w.1 57) k (w.1 57 k ||| x) := by
      show upd (w1.1 57) ((13 : Int32) * c + f).toNatClampNeg (w1.1 57 ((13 : Int32) * c + f).toNatClampNeg ||| x) = _
      rw [ck, o57]
    have r8 : (qq_ui w1 57 ((13 : Int32) * c + f).toNatClampNeg (w1.1 57 ((13 : Int32) * c + f).toNatClampNeg ||| x)).1 8 = w1.1 8 := rfl
    refine hq _ ⟨qq_only_ui (qq_only_up h1 (by simp)) (by simp), fun q hq => ?_, r57, ?_⟩
    · show w1.1 8 q = _
      rw [h2, upd_at, if_neg hq]
    · unfold mSI
      have e1 : (qq_ui w1 57 ((13 : Int32) * c + f).toNatClampNeg (w1.1 57 ((13 : Int32) * c + f).toNatClampNeg ||| x)).1 8 35 = nI (cCount (upd (w.1 57) k (w.1 57 k ||| x)) 832) := by
        rw [r8, h2, upd_at, if_pos rfl]
        congr 1
        have := cCount_upd (w.1 57) k (w.1 57 k ||| x) 832 (by omega)
        rw [pcb_or] at this
        omega
      rw [← r57] at e1
      exact e1
  | succ m ih =>
    intro i hi x4 w1 e4 h1 h2
    have o57 : w1.1 57 = w.1 57 := h1.2 57 (by simp)
    have e35 : w1.1 8 35 = nI (B + pnew (w.1 57 k) x i) := by rw [h2, upd_at, if_pos rfl]
    have hpn := pnew_le (w.1 57 k) x i
    have hb1 : (x >>> (x4 &&& 31)) &&& 1 = 1 ↔ bt x i = true := by rw [e4]; exact b_has1 (by omega) _
    have hb2 : ((w1.1 57 ((13 : Int32) * c + f).toNatClampNeg) >>> (x4 &&& 31)) &&& 1 = 0 ↔ bt (w.1 57 k) i = false := by rw [ck, o57, e4]; exact b_has (by omega) _
    have next : ∀ v : Int32, w1.1 8 35 + v = nI (B + pnew (w.1 57 k) x (i + 1)) → K 3 [(0, .ref 8), (1, .int c), (2, .int f), (3, .int x), (4, .int (x4 + 1))] [] (qq_ui w1 8 35 (w1.1 8 35 + v)) := by
      intro v ev
      refine ih (i + 1) (by omega) _ _ (i_s e4) (qq_only_ui h1 (by simp)) ?_
      show upd (w1.1 8) 35 (w1.1 8 35 + v) = _
      rw [ev, h2]
      funext q
      rw [upd_at, upd_at, upd_at]
      split <;> rfl
    have zero : ¬ (bt x i = true ∧ ¬ bt (w.1 57 k) i = true) → w1.1 8 35 + 0 = nI (B + pnew (w.1 57 k) x (i + 1)) := by
      intro z
      have : w1.1 8 35 + nI 0 = nI (B + pnew (w.1 57 k) x (i + 1)) := by
        unfold pnew
        rw [if_neg z, e35, nI_add]
        rfl
      exact this
    refine qq_go_ok S (fun pc => Nat.beq pc 3) 60 ?_
    conv => whnf
    refine br_f (i_nge 13 e4 (by omega) (by omega)) ?_
    conv => whnf
    refine ⟨fun h => ?_, fun h => ?_⟩
    · have h : ¬ bt x i = true := fun z => h (hb1.mpr z)
      conv => whnf
      exact qq_wk S (next 0 (zero fun z => h z.1)) ⟨rfl, rfl, rfl, rfl, rfl, trivial⟩
    have h := hb1.mp h
    conv => whnf
    refine ⟨i_in 832 ek (by omega) (by decide), ?_⟩
    conv => whnf
    refine ⟨fun h3 => ?_, fun h3 => ?_⟩
    · have h3 : bt (w.1 57 k) i = true := bt_not (fun z => h3 (hb2.mpr z))
      conv => whnf
      exact qq_wk S (next 0 (zero fun z => z.2 h3)) ⟨rfl, rfl, rfl, rfl, rfl, trivial⟩
    · have h3 := hb2.mp h3
      conv => whnf
      refine qq_wk S (next 1 ?_) ⟨rfl, rfl, rfl, rfl, rfl, trivial⟩
      have : w1.1 8 35 + nI 1 = nI (B + pnew (w.1 57 k) x (i + 1)) := by
        unfold pnew
        rw [if_pos ⟨h, by rw [h3]; decide⟩, e35, nI_add]
        congr 1
      exact this
set_option maxHeartbeats 4000000 in
set_option maxRecDepth 100000 in
theorem bd_X8_sumsUp : ∀ As w P K, qq_Sat ww_sh ww_ro cs_X8_sumsUp (qq_at 75 kd_X8_sumsUp) none P K → T_X8_sumsUp As w P → K 0 (lv_args 0 As) [] w := by
  intro As w P K S h
  unfold T_X8_sumsUp at h
  split at h
  · rename_i c f x
    obtain ⟨⟨hp, hp2, hI⟩, hq⟩ := h
    obtain ⟨ec, hc⟩ := qn_eq hp (by decide)
    obtain ⟨ef, hf⟩ := qn_eq hp2 (by decide)
    refine qq_go_ok S (fun pc => Nat.beq pc 3) 60 ?_
    conv => whnf
    refine qq_wk S (lp_sumsUp S ec hc ef hf rfl rfl hI hq 13 0 rfl _ _ rfl qq_only_rf ?_) ⟨rfl, rfl, rfl, rfl, rfl, trivial⟩
    funext q
    rw [upd_at]
    split
    · rename_i z
      rw [z]
      exact hI
    · rfl
  · exact h.elim
theorem ha_X8_sumsUp : ∀ As w P, T_X8_sumsUp As w P → qq_wd As ≤ 5 := by
  intro As w P h
  unfold T_X8_sumsUp at h
  split at h
  · exact Nat.le_of_ble_eq_true rfl
  · exact h.elim
theorem hv_X8_sumsUp : ∀ As w P, T_X8_sumsUp As w P → ∃ (k : Nat) (r : List Value) (fs : List Nat), As = .ref k :: r ∧ ww_sh[k]? = some (.inr (8, fs)) := by
  intro As w P h
  unfold T_X8_sumsUp at h
  split at h
  · exact ⟨_, _, _, rfl, rfl⟩
  · exact h.elim
set_option maxRecDepth 100000 in
theorem M_X8_sumsUp (l : Launch) : qq_M l ww_T ww_N vwCl ww_sh ww_ro ww_zs yX8_sumsUp cX8_sumsUp 5 none (ww_rm 0) T_X8_sumsUp := by
  refine qq_mk (host := RX7) (is := ki_X8_sumsUp) (cs := cs_X8_sumsUp) (by decide) ww_k1 wl_X8 ww_so ww_so2 kc_X8_sumsUp kv_X8_sumsUp kg_X8_sumsUp ?_ ha_X8_sumsUp bd_X8_sumsUp
  intro k i q hi hq
  simp [cs_X8_sumsUp] at hq
abbrev cs_X8_comesBack : List (Nat × qq_t) := [(4, T_X8_sumsUp), (4, T_X8_reachAll)]
/-- the reference's solving goes on: paths and sums gain -/
def mGo (w w' : qq_w) (N M : Nat → Nat → Prop) : Prop := qq_only [8, 56, 57, 58] w w' ∧ (∀ j, j ≠ 32 → j ≠ 34 → j ≠ 35 → w'.1 8 j = w.1 8 j) ∧ (∀ f, mW w f → ∃ f', f ≤ f' ∧ mW w' f' ∧ ∀ i, i < f → w'.1 58 i = w.1 58 i) ∧ (mSI w → mSI w') ∧ (∀ j e, bt (w'.1 56 j) e = true ↔ bt (w.1 56 j) e = true ∨ N j e) ∧ ∀ j e, bt (w'.1 57 j) e = true ↔ bt (w.1 57 j) e = true ∨ M j e
theorem mGo_rf {w : qq_w} {N M : Nat → Nat → Prop} (hN : ∀ j e, ¬ N j e) (hM : ∀ j e, ¬ M j e) : mGo w w N M := ⟨qq_only_rf, fun _ _ _ _ => rfl, fun f h => ⟨f, Nat.le_refl f, h, fun _ _ => rfl⟩, id, fun j e => ⟨Or.inl, fun z => z.elim id (fun y => absurd y (hN j e))⟩, fun j e => ⟨Or.inl, fun z => z.elim id (fun y => absurd y (hM j e))⟩⟩
theorem mGo_tr {w w1 w2 : qq_w} {N N' N2 M M' M2 : Nat → Nat → Prop} (h : mGo w w1 N M) (h2 : mGo w1 w2 N' M') (hN : ∀ j e, N2 j e ↔ N j e ∨ N' j e) (hM : ∀ j e, M2 j e ↔ M j e ∨ M' j e) : mGo w w2 N2 M2 := by
  refine ⟨qq_only_tr h.1 h2.1, fun j a b c => (h2.2.1 j a b c).trans (h.2.1 j a b c), fun f hf => ?_, fun z => h2.2.2.2.1 (h.2.2.2.1 z), fun j e => ?_, fun j e => ?_⟩
  · obtain ⟨f1, a1, a2, a3⟩ := h.2.2.1 f hf
    obtain ⟨f2, b1, b2, b3⟩ := h2.2.2.1 f1 a2
    exact ⟨f2, by omega, b2, fun i hi => (b3 i (by omega)).trans (a3 i hi)⟩
  · rw [h2.2.2.2.2.1, h.2.2.2.2.1, hN, or_assoc]
  · rw [h2.2.2.2.2.2, h.2.2.2.2.2, hM, or_assoc]
theorem mGo_of {w w' : qq_w} {N : Nat → Nat → Prop} (h : mAdd w w' N) : mGo w w' N (fun _ _ => False) := by
  have o57 : w'.1 57 = w.1 57 := h.1.1.2 57 (by simp)
  refine ⟨qq_only_up h.1.1 (by simp), fun j a b _ => h.1.2.1 j a b, h.1.2.2, fun z => ?_, h.2, fun j e => by rw [o57]; exact ⟨Or.inl, fun z => z.elim id False.elim⟩⟩
  unfold mSI at *
  rw [h.1.2.1 35 (by decide) (by decide), o57]
  exact z
theorem mGo_W {w w1 : qq_w} {N M : Nat → Nat → Prop} (h : mGo w w1 N M) (hf : ∃ f, mW w f) : ∃ f, mW w1 f := by
  obtain ⟨f, hf⟩ := hf
  obtain ⟨f1, -, a2, -⟩ := h.2.2.1 f hf
  exact ⟨f1, a2⟩
theorem mGo_iff {w w1 : qq_w} {N M N' M' : Nat → Nat → Prop} (h : mGo w w1 N M) (hN : ∀ j e, N j e ↔ N' j e) (hM : ∀ j e, M j e ↔ M' j e) : mGo w w1 N' M' := ⟨h.1, h.2.1, h.2.2.1, h.2.2.2.1, fun j e => by rw [← hN]; exact h.2.2.2.2.1 j e, fun j e => by rw [← hM]; exact h.2.2.2.2.2 j e⟩
def T_X8_comesBack : qq_t := fun As w P => match As with
  | [.ref 8, .int c, .int g, .int x] => ((vp_in c 64 ∧ vp_in g 13 ∧ vp_in (w.1 49 (qn c)) 64 ∧ qn (w.1 49 (qn c)) ≠ qn c ∧ mSI w ∧ fs x) ∧ ∃ f, mW w f) ∧ ∀ w', mGo w w' (fun j e => ∃ d, d < 13 ∧ j = 13 * qn (w.1 49 (qn c)) + d ∧ bt x e = true ∧ bt (w.1 56 (13 * qn c + d)) (qn g) = true) (fun j e => j = 13 * qn c + qn g ∧ bt x e = true) → P none w'
  | _ => False
theorem lp_comesBack {P : Option Value → qq_w → Prop} {K : Nat → qq_L → List Value → qq_w → Prop} (S : qq_Sat ww_sh ww_ro cs_X8_comesBack (qq_at 57 kd_X8_comesBack) none P K) {w : qq_w} {c g x : Int32} {n r i0 : Nat} (hc : c = nI n) (hn : n < 64) (hg : g = nI i0) (hi0 : i0 < 13) (hr : w.1 49 n = nI r) (hr2 : r < 64) (hne : r ≠ n) (hx : fs x) (hf : ∃ f, mW w f) {M : Nat → Nat → Prop}
    (hq : ∀ w', mGo w w' (fun j e => ∃ d, d < 13 ∧ j = 13 * r + d ∧ bt x e = true ∧ bt (w.1 56 (13 * n + d)) i0 = true) M → P none w') :
    ∀ m i, i + m = 13 → ∀ (x4 : Int32) (w1 : qq_w), x4 = nI i → mGo w w1 (fun j e => ∃ d, d < i ∧ j = 13 * r + d ∧ bt x e = true ∧ bt (w.1 56 (13 * n + d)) i0 = true) M → K 10 [(0, .ref 8), (1, .int c), (2, .int g), (3, .int x), (4, .int x4)] [] w1 := by
  intro m
  induction m with
  | zero =>
    intro i hi x4 w1 e4 h1
    have : i = 13 := by omega
    subst this
    refine qq_go_ok S (fun pc => Nat.beq pc 10) 60 ?_
    conv => whnf
    refine br_t (i_ge 13 e4 (by omega) (by omega)) ?_
    conv => whnf
    exact hq _ h1
  | succ m ih =>
    intro i hi x4 w1 e4 h1
    refine qq_go_ok S (fun pc => Nat.beq pc 10) 60 ?_
    conv => whnf
    refine br_f (i_nge 13 e4 (by omega) (by omega)) ?_
    conv => whnf
    have e := nI_mr hc e4 (nI_lit 13)
    refine ⟨i_in 832 e (by omega) (by decide), ?_⟩
    conv => whnf
    have hrow : bt (w1.1 56 (13 * n + i)) i0 = true ↔ bt (w.1 56 (13 * n + i)) i0 = true := by
      rw [h1.2.2.2.2.1]
      constructor
      · rintro (z | ⟨d, z1, z2, -⟩)
        · exact z
        · omega
      · exact Or.inl
    have hb1 : ((w1.1 56 ((13 : Int32) * c + x4).toNatClampNeg) >>> (g &&& 31)) &&& 1 = 1 ↔ bt (w.1 56 (13 * n + i)) i0 = true := by
      rw [i_c e (by omega), hg, ← hrow]
      exact b_has1 (by omega) _
    refine ⟨fun h => ?_, fun h => ?_⟩
    · have h : ¬ bt (w.1 56 (13 * n + i)) i0 = true := fun z => h (hb1.mpr z)
      conv => whnf
      refine qq_wk S (ih (i + 1) (by omega) _ _ (i_s e4) (mGo_iff h1 (fun j e => ⟨?_, ?_⟩) (fun _ _ => Iff.rfl))) ⟨rfl, rfl, rfl, rfl, rfl, trivial⟩
      · rintro ⟨d, z1, z2⟩; exact ⟨d, by omega, z2⟩
      · rintro ⟨d, z1, z2, z3, z4⟩
        by_cases q : d = i
        · subst q; exact absurd z4 h
        · exact ⟨d, by omega, z2, z3, z4⟩
    · have h := hb1.mp h
      conv => whnf
      refine ⟨i_in 64 hc hn (by decide), ?_⟩
      conv => whnf
      have er : w1.1 49 c.toNatClampNeg = nI r := by rw [h1.1.2 49 (by simp), i_c hc (by omega)]; exact hr
      refine ⟨⟨⟨i_in 64 er hr2 (by decide), i_in 13 e4 (by omega) (by decide)⟩, mGo_W h1 hf⟩, fun w2 h2 => ?_⟩
      conv => whnf
      refine qq_wk S (ih (i + 1) (by omega) _ w2 (i_s e4) (mGo_tr h1 (mGo_of h2) (fun j e => ?_) (fun j e => ⟨Or.inl, fun z => z.elim id False.elim⟩))) ⟨rfl, rfl, rfl, rfl, rfl, trivial⟩
      have qr : qn ((64, w1.1 49).2 c.toNatClampNeg) = r := by
        show qn (w1.1 49 c.toNatClampNeg) = r
        rw [er]; exact qn_nI (by omega)
      have q4 : qn x4 = i := by rw [e4]; exact qn_nI (by omega)
      rw [qr, q4]
      constructor
      · rintro ⟨d, z1, z2, z3, z4⟩
        by_cases q : d = i
        · subst q; exact Or.inr ⟨z2, fs_lt hx z3, z3⟩
        · exact Or.inl ⟨d, by omega, z2, z3, z4⟩
      · rintro (⟨d, z1, z2⟩ | ⟨z1, z2, z3⟩)
        · exact ⟨d, by omega, z2⟩
        · exact ⟨i, by omega, z1, z3, h⟩
set_option maxHeartbeats 4000000 in
set_option maxRecDepth 100000 in
theorem bd_X8_comesBack : ∀ As w P K, qq_Sat ww_sh ww_ro cs_X8_comesBack (qq_at 57 kd_X8_comesBack) none P K → T_X8_comesBack As w P → K 0 (lv_args 0 As) [] w := by
  intro As w P K S h
  unfold T_X8_comesBack at h
  split at h
  · rename_i c g x
    obtain ⟨⟨⟨hp, hp2, hp3, hp4, hI, hx⟩, hf⟩, hq⟩ := h
    obtain ⟨ec, hc⟩ := qn_eq hp (by decide)
    obtain ⟨eg, hg⟩ := qn_eq hp2 (by decide)
    obtain ⟨er, hr⟩ := qn_eq hp3 (by decide)
    refine qq_go_ok S (fun pc => Nat.beq pc 10) 60 ?_
    conv => whnf
    refine ⟨⟨hp, hp2, hI⟩, fun w1 h1 => ?_⟩
    conv => whnf
    have o : ∀ q, q ∉ [8, 57] → w1.1 q = w.1 q := h1.1.2
    have o56 : w1.1 56 = w.1 56 := o 56 (by simp)
    have o58 : w1.1 58 = w.1 58 := o 58 (by simp)
    have hmW : ∀ f, mW w f → mW w1 f := by
      intro f hf
      unfold mW mR at *
      rw [h1.2.1 32 (by decide), h1.2.1 34 (by decide), o56, o58]
      exact hf
    have hgo : mGo w w1 (fun j e => ∃ d, d < 0 ∧ j = 13 * qn (w.1 49 (qn c)) + d ∧ bt x e = true ∧ bt (w.1 56 (13 * qn c + d)) (qn g) = true) (fun j e => j = 13 * qn c + qn g ∧ bt x e = true) := by
      refine ⟨qq_only_up h1.1 (by simp), fun j _ _ z => h1.2.1 j z, fun f hf => ⟨f, Nat.le_refl f, hmW f hf, fun i _ => by rw [o58]⟩, fun _ => h1.2.2.2, fun j e => ?_, fun j e => ?_⟩
      · rw [o56]
        constructor
        · exact Or.inl
        · rintro (z | ⟨d, z, -⟩)
          · exact z
          · omega
      · rw [h1.2.2.1, upd_at]
        by_cases hj : j = 13 * qn c + qn g
        · subst hj
          rw [if_pos rfl, b_or, Bool.or_eq_true]
          exact or_congr Iff.rfl ⟨fun z => ⟨rfl, z⟩, fun z => z.2⟩
        · rw [if_neg hj]
          exact ⟨Or.inl, fun z => z.elim id (fun y => absurd y.1 hj)⟩
    exact qq_wk S (lp_comesBack (w := w) S ec hc eg hg er hr hp4 hx hf hq 13 0 rfl _ w1 rfl hgo) ⟨rfl, rfl, rfl, rfl, rfl, trivial⟩
  · exact h.elim
theorem ha_X8_comesBack : ∀ As w P, T_X8_comesBack As w P → qq_wd As ≤ 5 := by
  intro As w P h
  unfold T_X8_comesBack at h
  split at h
  · exact Nat.le_of_ble_eq_true rfl
  · exact h.elim
theorem hv_X8_comesBack : ∀ As w P, T_X8_comesBack As w P → ∃ (k : Nat) (r : List Value) (fs : List Nat), As = .ref k :: r ∧ ww_sh[k]? = some (.inr (8, fs)) := by
  intro As w P h
  unfold T_X8_comesBack at h
  split at h
  · exact ⟨_, _, _, rfl, rfl⟩
  · exact h.elim
set_option maxRecDepth 100000 in
theorem M_X8_comesBack (l : Launch) : qq_M l ww_T ww_N vwCl ww_sh ww_ro ww_zs yX8_comesBack cX8_comesBack 5 none (ww_rm 2) T_X8_comesBack := by
  refine qq_mk (host := RX7) (is := ki_X8_comesBack) (cs := cs_X8_comesBack) (by decide) ww_k1 wl_X8 ww_so ww_so2 kc_X8_comesBack kv_X8_comesBack kg_X8_comesBack ?_ ha_X8_comesBack bd_X8_comesBack
  intro k i q hi hq
  match k, hi, hq with
  | 0, hi, hq => cases hi; cases hq; exact fun p e s m args below meth c D tys tC ad Q pc X hdg => qq_cV (ci := 8) X ww_gd (M_X8_sumsUp l) kf_X8_sumsUp.1 (Or.inl (ww_a6 (i := 6) (w := Cond.methodLink RX8 220 yX8_sumsUp) rfl rfl)) kf_X8_sumsUp.2.1 kf_X8_sumsUp.2.2.1 kf_X8_sumsUp.2.2.2 ⟨by decide, by decide, by decide +kernel⟩ rfl rfl rfl ⟨by decide, by decide⟩ ⟨Nat.le_refl _, Nat.le_refl _⟩ hv_X8_sumsUp hdg
  | 1, hi, hq => cases hi; cases hq; exact fun p e s m args below meth c D tys tC ad Q pc X hdg => qq_cV (ci := 8) X ww_gd (M_X8_reachAll l) kf_X8_reachAll.1 (Or.inl (ww_a6 (i := 10) (w := Cond.methodLink RX8 223 yX8_reachAll) rfl rfl)) kf_X8_reachAll.2.1 kf_X8_reachAll.2.2.1 kf_X8_reachAll.2.2.2 ⟨by decide, by decide, by decide +kernel⟩ rfl rfl rfl ⟨by decide, by decide⟩ ⟨Nat.le_refl _, Nat.le_refl _⟩ hv_X8_reachAll hdg
  | n + 2, hi, hq => simp [cs_X8_comesBack] at hq
