/-! A TURN of either goes on with the search -/
theorem cStep_up {w : qq_w} {N Pn E n d e j g : Nat} (H : iPrg w N Pn E) (hfs : ∀ j, fs (w.1 19 j)) (hn : n < N) (hd : d < 13) (he : e < 13) (h : cStep w n d e j g) : ∃ t d', t < N ∧ d' < 13 ∧ j = 13 * t + d' ∧ ((d' = d ∧ cStp w n e t g) ∨ (d' = g ∧ cGoI w n e t g) ∨ (∃ l a b, l < N ∧ a < 13 ∧ b < 13 ∧ d' = d ∧ cThrR w n e l a b t g ∧ bt (w.1 20 (13 * l + a)) b = true) ∨ ∃ c f, c < N ∧ f < 13 ∧ cThrR w c f n d e t g ∧ bt (w.1 20 (13 * c + d')) f = true) := by
  have hN : N ≤ 64 := H.1.1
  rcases h with ⟨h9, hc⟩ | ⟨h1, hl⟩ | ⟨g9, g1, t, ht, hj, hb⟩
  · obtain ⟨p, l, r, hp, hl, hr, e5, e47, e7, e49, e12, e39, e40, e43, q5, q47, q7, q49, q12, q39, q40⟩ := iP_cal H hn h9
    rcases hc with ⟨hj, hh⟩ | ⟨hg, hj, hb⟩
    · rw [q7] at hj
      refine ⟨r, d, hr, hd, hj, ?_⟩
      rcases hh with hb | ⟨a, b, ha, hb, b1, b2, b3⟩
      · exact Or.inl ⟨rfl, Or.inr ⟨h9, e7⟩, hb⟩
      · have eL : cLeave w n = l + 1 := by
          unfold cLeave
          rw [q5, q12]
        rw [eL] at b2
        refine Or.inr (Or.inr (Or.inl ⟨l + 1, a, b, hl, ha, hb, rfl, ⟨h9, ?_, e7, b1, b3⟩, b2⟩))
        rw [q5, e12]
        exact nI_1 l
    · rw [q5, q12] at hj
      refine ⟨l, g, by omega, hg, hj, Or.inr (Or.inl ⟨rfl, h9, ?_, hb⟩)⟩
      rw [q5, e12]
  · obtain ⟨c, d', hc, h9, h5, hd', hj, hb, f, hf, b1, b2⟩ := hl
    rw [(iP_P H).2.2.1] at hc
    obtain ⟨p, l, r, hp, hl, hr, e5, e47, e7, e49, e12, e39, e40, e43, q5, q47, q7, q49, q12, q39, q40⟩ := iP_cal H hc h9
    rw [q7] at hj
    exact ⟨r, d', hr, hd', hj, Or.inr (Or.inr (Or.inr ⟨c, f, hc, hf, ⟨h9, ((iP_lvO H) n hn h1 c hc h9).mp h5, e7, b2, hb⟩, b1⟩))⟩
  · exact ⟨t, d, ((iP_edge H hn).mp ht).1, hd, hj, Or.inl ⟨rfl, Or.inl ⟨g1, g9, ht⟩, hb⟩⟩
theorem cStep_s {w : qq_w} {n d e t g : Nat} (ht : t < 64) (h : cStp w n e t g) : cStep w n d e (13 * t + d) g := by
  obtain ⟨⟨g1, g9, hl⟩ | ⟨h9, h7⟩, hb⟩ := h
  · exact Or.inr (Or.inr ⟨g9, g1, t, hl, rfl, hb⟩)
  · refine Or.inl ⟨h9, Or.inl ⟨?_, Or.inl hb⟩⟩
    have q7 : qn (cX w n 7) = t := by rw [h7, qn_nI (by omega)]
    rw [q7]
theorem cStep_g {w : qq_w} {n d e m g : Nat} (hfs : ∀ j, fs (w.1 19 j)) (hm : m < 64) (h : cGoI w n e m g) : cStep w n d e (13 * m + g) g := by
  obtain ⟨h9, h1, hb⟩ := h
  refine Or.inl ⟨h9, Or.inr ⟨fs_lt (hfs _) hb, ?_, hb⟩⟩
  have q : qn (w.1 12 (qn (cX w n 5))) = m := by rw [h1, qn_nI (by omega)]
  rw [q]
theorem cStep_t1 {w : qq_w} {N Pn E n d e l a b r g : Nat} (H : iPrg w N Pn E) (hfs : ∀ j, fs (w.1 19 j)) (hn : n < N) (hl : l < 64) (hr : r < 64) (hb : b < 13) (h : cThrR w n e l a b r g) (h2 : bt (w.1 20 (13 * l + a)) b = true) : cStep w n d e (13 * r + d) g := by
  have hN : N ≤ 64 := H.1.1
  obtain ⟨h9, h1, h7, b1, b2⟩ := h
  obtain ⟨p, l', r', hp, hl', hr', e5, e47, e7, e49, e12, e39, e40, e43, q5, q47, q7, q49, q12, q39, q40⟩ := iP_cal H hn h9
  rw [q5, e12, nI_1] at h1
  have el := nI_inj (by omega) (by omega) h1
  have eL : cLeave w n = l := by
    unfold cLeave
    rw [q5, q12, el]
  have er : qn (cX w n 7) = r := by rw [h7, qn_nI (by omega)]
  refine Or.inl ⟨h9, Or.inl ⟨by rw [er], Or.inr ⟨a, b, fs_lt (hfs _) b1, hb, b1, by rw [eL]; exact h2, b2⟩⟩⟩
theorem cStep_t2 {w : qq_w} {N Pn E n d e c d' f r g : Nat} (H : iPrg w N Pn E) (hn : n < N) (hc : c < N) (hr : r < 64) (hf : f < 13) (hd' : d' < 13) (h : cThrR w c f n d e r g) (h2 : bt (w.1 20 (13 * c + d')) f = true) : cStep w n d e (13 * r + d') g := by
  have hN : N ≤ 64 := H.1.1
  obtain ⟨h9, h1, h7, b1, b2⟩ := h
  obtain ⟨p, l', r', hp, hl', hr', e5, e47, e7, e49, e12, e39, e40, e43, q5, q47, q7, q49, q12, q39, q40⟩ := iP_cal H hc h9
  have er : qn (cX w c 7) = r := by rw [h7, qn_nI (by omega)]
  have k1 : cX w n 1 = 1 := by
    obtain ⟨a, b, l, -, -, -, hl, g9, g37, g10, g38, g12, g39, g40, k0, k1, k2, k3, -⟩ := H.2.2.1 p hp
    rw [q5, e12, nI_1] at h1
    have el := nI_inj (by omega) (by omega) h1
    have el2 := nI_inj (by omega) (by omega) (e12.symm.trans g12)
    rw [← el, el2]
    exact k3
  refine Or.inr (Or.inl ⟨k1, c, d', by rw [(iP_P H).2.2.1]; exact hc, h9, ((iP_lvO H) n hn k1 c hc h9).mpr h1, hd', ?_, b2, f, hf, h2, b1⟩)
  rw [er]
/-- the class's sets -/
def cRq (w : qq_w) (n d e : Nat) : Prop := n < 64 ∧ d < 13 ∧ e < 13 ∧ bt (w.1 20 (13 * n + d)) e = true
def cGq (w : qq_w) (t n d e : Nat) : Prop := n < 64 ∧ d < 13 ∧ e < 13 ∧ ∃ i, i < t ∧ w.1 21 i = nI (169 * n + 13 * d + e)
theorem c_turn {w w' : qq_w} {N Pn E t f : Nat} (H : iPrg w N Pn E) (h0 : 0 < Pn) (hS : iSt w N) (hU : cUW w N t f) (hs : srch w (cRq w) (cGq w t)) (hT : cTurn w w') : srch w (cRq w') (cGq w' (t + 1)) ∧ qq_only [3, 20, 21] w w' ∧ ∀ j, j ≠ 5 → j ≠ 6 → w'.1 3 j = w.1 3 j := by
  have hN : N ≤ 64 := H.1.1
  obtain ⟨hPW, hfs, hW, e36, htf, hRB⟩ := hU
  obtain ⟨t', f', c, e36', ht', hW', ec, hc, ⟨ho, h3, hx⟩, hrow⟩ := hT
  have hf1 := WL_le hW.2
  have hf2 := WL_le hW'.2
  have et : t = t' := nI_inj (by omega) (by omega) (e36.symm.trans e36')
  subst et
  have ef : f = f' := nI_inj (by omega) (by omega) (hW.1.symm.trans hW'.1)
  subst ef
  have hRc : cR w c := by
    obtain ⟨c2, h1, h2⟩ := hW.2.2.1 t ht'
    have := hW.2.1 c2 h1
    have : c = c2 := nI_inj (by omega) (by omega) (ec.symm.trans h2)
    exact this ▸ h1
  have hcn : c / 13 < 13 * N := hRB (c / 13) (c % 13) (by omega) hRc.2
  have hR0 : cRq w (c / 169) (c / 13 % 13) (c % 13) := ⟨by omega, by omega, by omega, by
    rw [show 13 * (c / 169) + c / 13 % 13 = c / 13 by omega]
    exact hRc.2⟩
  have hn : c / 169 < N := by omega
  obtain ⟨f2, hff, hW2, hpre⟩ := hx f (cW_gone hW)
  have hpre : ∀ i, i < f → w'.1 21 i = w.1 21 i := hpre
  have hrow : ∀ j e, bt (w'.1 20 j) e = true ↔ bt (w.1 20 j) e = true ∨ cStep w (c / 169) (c / 13 % 13) (c % 13) j e := hrow
  have low : ∀ n d e, n < 64 → d < 13 → e < 13 → cStep w (c / 169) (c / 13 % 13) (c % 13) (13 * n + d) e → cRq w' n d e := fun n d e h1 h2 h3 h4 => ⟨h1, h2, h3, (hrow _ _).mpr (Or.inr h4)⟩
  refine ⟨srch_turn hs hR0 ?_ ?_ ?_ ?_ ?_ ?_ ?_, ⟨ho.1, fun q hq => ?_⟩, fun j h5 h6 => ?_⟩
  · rintro n d e ⟨h1, h2, h3, h4⟩
    exact ⟨h1, h2, h3, (hrow _ _).mpr (Or.inl h4)⟩
  · rintro n d e ⟨h1, h2, h3, h4⟩
    rcases (hrow _ _).mp h4 with h4 | h4
    · exact Or.inl ⟨h1, h2, h3, h4⟩
    refine Or.inr ?_
    obtain ⟨T, d', hT, hd', hj, hh⟩ := cStep_up H hfs hn (by omega) (by omega) h4
    obtain rfl : n = T := by omega
    obtain rfl : d = d' := by omega
    have hcl := hs.1 _ _ _ hR0
    rcases hh with ⟨rfl, hh⟩ | ⟨rfl, hh⟩ | ⟨l, a, b, hl, ha, hb, rfl, hh, hb2⟩ | ⟨c', f', hc', hf', hh, hb2⟩
    · exact PClo.stp (by omega) h1 hcl ((stp_eq H hS hn (by omega) h1).mp hh)
    · exact PClo.goI (by omega) h1 hcl ((goI_eq H hS hn (by omega)).mp hh)
    · exact PClo.thr (by omega) (by omega) h1 hcl ((thr_eq H hS hn (by omega) hb).mp hh) (hs.1 _ _ _ ⟨by omega, ha, hb, hb2⟩)
    · exact PClo.thr (by omega) (by omega) h1 (hs.1 _ _ _ ⟨by omega, h2, hf', hb2⟩) ((thr_eq H hS hc' hf' (by omega)).mp hh) hcl
  · rintro n d e ⟨h1, h2, h3, i, hi, h4⟩
    rw [hpre i (by omega)] at h4
    by_cases hit : i = t
    · subst hit
      have := nI_inj (by omega) (by omega) (ec.symm.trans h4)
      exact Or.inr ⟨by omega, by omega, by omega⟩
    · exact Or.inl ⟨h1, h2, h3, i, by omega, h4⟩
  · intro T g hT hst
    obtain ⟨a1, a2, -⟩ := mStp_lt H hn (by omega) hT hst
    exact low T _ g hT (by omega) a2 (cStep_s hT ((stp_eq H hS hn (by omega) hT).mpr hst))
  · intro m g hm hst
    obtain ⟨a1, a2, -⟩ := mGoI_lt H hn (by omega) hm hst
    exact low m _ g hm a2 a2 (cStep_g hfs hm ((goI_eq H hS hn (by omega)).mpr hst))
  · rintro l g h r g' hl hr hst ⟨b1, b2, b3, b4⟩
    obtain ⟨a1, a2, a3, a4, -⟩ := mThr_lt H hn (by omega) b3 hl hr hst
    exact low r _ g' hr (by omega) a4 (cStep_t1 H hfs hn hl hr b3 ((thr_eq H hS hn (by omega) b3).mpr hst) b4)
  · rintro c' d' e' r g' hr hst ⟨b1, b2, b3, b4⟩
    have hc' : c' < N := (PClo_lt H h0 (hs.1 _ _ _ ⟨b1, b2, b3, b4⟩)).1.1
    obtain ⟨a1, a2, a3, a4, -⟩ := mThr_lt H hc' b3 (by omega) (by omega) hr hst
    exact low r _ g' hr b2 a4 (cStep_t2 H hn hc' hr b3 b2 ((thr_eq H hS hc' b3 (by omega)).mpr hst) b4)
  · have hq3 : q ≠ 3 := fun z => hq (by simp [z])
    have := ho.2 q hq
    simp only [qq_ui, va_up, hq3, if_false] at this
    exact this
  · have := h3 j h5
    rw [this]
    show upd (w.1 3) 6 _ j = _
    rw [upd_at, if_neg h6]
/-! the reference -/
def mRq (w : qq_w) (n d e : Nat) : Prop := n < 64 ∧ d < 13 ∧ e < 13 ∧ bt (w.1 56 (13 * n + d)) e = true
def mGq (w : qq_w) (t n d e : Nat) : Prop := n < 64 ∧ d < 13 ∧ e < 13 ∧ ∃ i, i < t ∧ w.1 58 i = nI (169 * n + 13 * d + e)
theorem iP_lvM {w : qq_w} {N Pn E n c : Nat} (H : iPrg w N Pn E) (hn : n < N) (h1 : w.1 43 n = 1) (hc : c < N) (h9 : w.1 43 c = 9) : w.1 47 c = w.1 42 n ↔ w.1 40 (qn (w.1 47 c)) = nI n := by
  rw [(iP_tell H hn).2.1] at h1
  rw [(iP_tell H hc).2.1] at h9
  have hN : N ≤ 64 := H.1.1
  obtain ⟨p, l, r, hp, hl, hr, e5, e47, e7, e49, e12, e39, e40, e43, q5, q47, q7, q49, q12, q39, q40⟩ := iP_cal H hc h9
  have := (iP_lvO H) n hn h1 c hc h9
  rw [q47, e40, (iP_tell H hn).1, (iP_tell H hc).2.2.2.2.2.1, this, q5, e12, nI_1]
theorem mStN_up {w : qq_w} {N Pn E n d e j g : Nat} (H : iPrg w N Pn E) (hn : n < N) (hd : d < 13) (he : e < 13) (hR : bt (w.1 56 (13 * n + d)) e = true) (h : mStN w n d e j g) : ∃ t d', t < N ∧ d' < 13 ∧ j = 13 * t + d' ∧ ((d' = d ∧ mStp w n e t g) ∨ (d' = g ∧ mGoI w n e t g) ∨ (∃ l a b, l < N ∧ a < 13 ∧ b < 13 ∧ mThr w n e l a b t g ∧ bt (w.1 56 (13 * l + a)) b = true ∧ bt (w.1 56 (13 * n + d')) e = true) ∨ ∃ c f, c < N ∧ f < 13 ∧ mThr w c f n d e t g ∧ bt (w.1 56 (13 * c + d')) f = true) := by
  have hN : N ≤ 64 := H.1.1
  rcases h with ⟨h1, c, f, d', hc, h9, h5, hf, b2, hd', hj, hb, b1⟩ | ⟨h9, hc⟩ | ⟨g1, g9, k, hk, e52, hj, hb⟩
  · rw [(iP_P H).2.2.2.1] at hc
    have h9' := h9
    rw [(iP_tell H hc).2.1] at h9
    obtain ⟨p, l, r, hp, hl, hr, e5, e47, e7, e49, e12, e39, e40, e43, q5, q47, q7, q49, q12, q39, q40⟩ := iP_cal H hc h9
    rw [q49] at hj
    exact ⟨r, d', hr, hd', hj, Or.inr (Or.inr (Or.inr ⟨c, f, hc, hf, ⟨h9', (iP_lvM H hn h1 hc h9').mp h5, e49, b2, hb⟩, b1⟩))⟩
  · have h9' := h9
    rw [(iP_tell H hn).2.1] at h9
    obtain ⟨p, l, r, hp, hl, hr, e5, e47, e7, e49, e12, e39, e40, e43, q5, q47, q7, q49, q12, q39, q40⟩ := iP_cal H hn h9
    rcases hc with ⟨hj, hb⟩ | ⟨a, ha, b1, ⟨hj, rfl⟩ | ⟨b, d', hb, hd', b2, hj, b3, b4⟩⟩
    · rw [q49] at hj
      exact ⟨r, d, hr, hd, hj, Or.inl ⟨rfl, Or.inr ⟨h9', e49⟩, hb⟩⟩
    · rw [q47, q39] at hj
      exact ⟨l, g, by omega, ha, hj, Or.inr (Or.inl ⟨rfl, h9', by rw [q47, e39], b1⟩)⟩
    · rw [q49] at hj
      rw [q47, q40] at b2
      exact ⟨r, d', hr, hd', hj, Or.inr (Or.inr (Or.inl ⟨l + 1, a, b, hl, ha, hb, ⟨h9', by rw [q47, e40], e49, b1, b3⟩, b2, b4⟩))⟩
  · have hk' := hk
    rw [(iP_P H).2.2.2.2.2] at hk'
    obtain ⟨a, b, ha, hb', e1, e2, e3, e4, -⟩ := H.2.2.2.1 k hk'
    rw [e4, qn_nI (by omega)] at hj
    exact ⟨b, d, hb', hd, hj, Or.inl ⟨rfl, Or.inl ⟨g1, g9, k, hk, e52, e4⟩, hb⟩⟩
theorem mStN_s {w : qq_w} {n d e t g : Nat} (ht : t < 64) (h : mStp w n e t g) : mStN w n d e (13 * t + d) g := by
  obtain ⟨⟨g1, g9, k, hk, h1, h2⟩ | ⟨h9, h7⟩, hb⟩ := h
  · exact Or.inr (Or.inr ⟨g1, g9, k, hk, h1, by rw [h2, qn_nI (by omega)], hb⟩)
  · exact Or.inr (Or.inl ⟨h9, Or.inl ⟨by rw [h7, qn_nI (by omega)], hb⟩⟩)
theorem mStN_g {w : qq_w} {n d e m g : Nat} (hg : g < 13) (hm : m < 64) (h : mGoI w n e m g) : mStN w n d e (13 * m + g) g := by
  obtain ⟨h9, h1, hb⟩ := h
  exact Or.inr (Or.inl ⟨h9, Or.inr ⟨g, hg, hb, Or.inl ⟨by rw [h1, qn_nI (by omega)], rfl⟩⟩⟩)
theorem mStN_t1 {w : qq_w} {n d e l a b r g : Nat} (hd : d < 13) (hl : l < 64) (hr : r < 64) (ha : a < 13) (hb : b < 13) (h : mThr w n e l a b r g) (h2 : bt (w.1 56 (13 * l + a)) b = true) (h3 : bt (w.1 56 (13 * n + d)) e = true) : mStN w n d e (13 * r + d) g := by
  obtain ⟨h9, h1, h7, b1, b2⟩ := h
  exact Or.inr (Or.inl ⟨h9, Or.inr ⟨a, ha, b1, Or.inr ⟨b, d, hb, hd, by rw [h1, qn_nI (by omega)]; exact h2, by rw [h7, qn_nI (by omega)], b2, h3⟩⟩⟩)
theorem mStN_t2 {w : qq_w} {N Pn E n d e c d' f r g : Nat} (H : iPrg w N Pn E) (hn : n < N) (hc : c < N) (h1 : w.1 43 n = 1) (hr : r < 64) (hf : f < 13) (hd' : d' < 13) (h : mThr w c f n d e r g) (h2 : bt (w.1 56 (13 * c + d')) f = true) : mStN w n d e (13 * r + d') g := by
  obtain ⟨h9, h5, h7, b1, b2⟩ := h
  exact Or.inl ⟨h1, c, f, d', by rw [(iP_P H).2.2.2.1]; exact hc, h9, (iP_lvM H hn h1 hc h9).mpr h5, hf, b1, hd', by rw [h7, qn_nI (by omega)], b2, h2⟩
/-- the summaries of the reference: found of what is found, and of all that is gone on from -/
def sumI (w : qq_w) (S : Nat → Int32) (R G : Nat → Nat → Nat → Prop) : Prop :=
  (∀ j g, j < 832 → bt (S j) g = true → ∃ c d f l a b r, f < 13 ∧ j = 13 * c + f ∧ R c d f ∧ l < 64 ∧ r < 64 ∧ mThr w c f l a b r g ∧ R l a b) ∧
  ∀ c d f l a b r g, l < 64 → r < 64 → G c d f → G l a b → mThr w c f l a b r g → bt (S (13 * c + f)) g = true
theorem m_turn {w w' : qq_w} {N Pn E t f : Nat} (H : iPrg w N Pn E) (h0 : 0 < Pn) (hU : mUW w N t f) (hs : srch w (mRq w) (mGq w t)) (hI : sumI w (w.1 57) (mRq w) (mGq w t)) (hT : mTurn w w') : srch w (mRq w') (mGq w' (t + 1)) ∧ sumI w (w'.1 57) (mRq w') (mGq w' (t + 1)) ∧ qq_only [8, 56, 57, 58] w w' ∧ ∀ j, j ∉ [32, 33, 34, 35] → w'.1 8 j = w.1 8 j := by
  have hN : N ≤ 64 := H.1.1
  obtain ⟨hPW, hSI, hW, e36, htf, hRB⟩ := hU
  obtain ⟨t', f', c, e36', ht', hW', ec, hc, ho, h8, hx, -, hrow, hsum⟩ := hT
  have hf1 := WL_le hW.2.2
  have hf2 := WL_le hW'.2.2
  have et : t = t' := nI_inj (by omega) (by omega) (e36.symm.trans e36')
  subst et
  have ef : f = f' := nI_inj (by omega) (by omega) (hW.1.symm.trans hW'.1)
  subst ef
  have hRc : mR w c := by
    obtain ⟨c2, h1, h2⟩ := hW.2.2.2.1 t ht'
    have := hW.2.2.1 c2 h1
    have : c = c2 := nI_inj (by omega) (by omega) (ec.symm.trans h2)
    exact this ▸ h1
  have hcn : c / 13 < 13 * N := hRB (c / 13) (c % 13) (by omega) hRc.2
  have hR0 : mRq w (c / 169) (c / 13 % 13) (c % 13) := ⟨by omega, by omega, by omega, by
    rw [show 13 * (c / 169) + c / 13 % 13 = c / 13 by omega]
    exact hRc.2⟩
  have hn : c / 169 < N := by omega
  obtain ⟨f2, hff, hW2, hpre⟩ := hx f (mW_gone hW)
  have hpre : ∀ i, i < f → w'.1 58 i = w.1 58 i := hpre
  have hrow : ∀ j e, bt (w'.1 56 j) e = true ↔ bt (w.1 56 j) e = true ∨ mStN w (c / 169) (c / 13 % 13) (c % 13) j e := hrow
  have hsum : ∀ j e, bt (w'.1 57 j) e = true ↔ bt (w.1 57 j) e = true ∨ mStM w (c / 169) (c / 13 % 13) (c % 13) j e := hsum
  have low : ∀ n d e, n < 64 → d < 13 → e < 13 → mStN w (c / 169) (c / 13 % 13) (c % 13) (13 * n + d) e → mRq w' n d e := fun n d e h1 h2 h3 h4 => ⟨h1, h2, h3, (hrow _ _).mpr (Or.inr h4)⟩
  have mono : ∀ n d e, mRq w n d e → mRq w' n d e := by
    rintro n d e ⟨h1, h2, h3, h4⟩
    exact ⟨h1, h2, h3, (hrow _ _).mpr (Or.inl h4)⟩
  have hG : ∀ n d e, mGq w' (t + 1) n d e → mGq w t n d e ∨ (n = c / 169 ∧ d = c / 13 % 13 ∧ e = c % 13) := by
    rintro n d e ⟨h1, h2, h3, i, hi, h4⟩
    rw [hpre i (by omega)] at h4
    by_cases hit : i = t
    · subst hit
      have := nI_inj (by omega) (by omega) (ec.symm.trans h4)
      exact Or.inr ⟨by omega, by omega, by omega⟩
    · exact Or.inl ⟨h1, h2, h3, i, by omega, h4⟩
  refine ⟨srch_turn hs hR0 mono ?_ hG ?_ ?_ ?_ ?_, ⟨fun j g hj hb => ?_, fun c1 d1 f1 l a b r g hl hr z1 z2 hst => ?_⟩, ⟨ho.1, fun q hq => ?_⟩, fun j hj => ?_⟩
  · rintro n d e ⟨h1, h2, h3, h4⟩
    rcases (hrow _ _).mp h4 with h4 | h4
    · exact Or.inl ⟨h1, h2, h3, h4⟩
    refine Or.inr ?_
    obtain ⟨T, d', hT, hd', hj, hh⟩ := mStN_up H hn (by omega) (by omega) hR0.2.2.2 h4
    obtain rfl : n = T := by omega
    obtain rfl : d = d' := by omega
    have hcl := hs.1 _ _ _ hR0
    rcases hh with ⟨rfl, hh⟩ | ⟨rfl, hh⟩ | ⟨l, a, b, hl, ha, hb, hh, hb2, hb3⟩ | ⟨c', f', hc', hf', hh, hb2⟩
    · exact PClo.stp (by omega) h1 hcl hh
    · exact PClo.goI (by omega) h1 hcl hh
    · exact PClo.thr (by omega) (by omega) h1 (hs.1 _ _ _ ⟨by omega, h2, by omega, hb3⟩) hh (hs.1 _ _ _ ⟨by omega, ha, hb, hb2⟩)
    · exact PClo.thr (by omega) (by omega) h1 (hs.1 _ _ _ ⟨by omega, h2, hf', hb2⟩) hh hcl
  · intro T g hT hst
    obtain ⟨a1, a2, -⟩ := mStp_lt H hn (by omega) hT hst
    exact low T _ g hT (by omega) a2 (mStN_s hT hst)
  · intro m g hm hst
    obtain ⟨a1, a2, -⟩ := mGoI_lt H hn (by omega) hm hst
    exact low m _ g hm a2 a2 (mStN_g a2 hm hst)
  · rintro l g h r g' hl hr hst ⟨b1, b2, b3, b4⟩
    obtain ⟨a1, a2, a3, a4, -⟩ := mThr_lt H hn (by omega) b3 hl hr hst
    exact low r _ g' hr (by omega) a4 (mStN_t1 (by omega) hl hr a3 b3 hst b4 hR0.2.2.2)
  · rintro c' d' e' r g' hr hst ⟨b1, b2, b3, b4⟩
    have hc' : c' < N := (PClo_lt H h0 (hs.1 _ _ _ ⟨b1, b2, b3, b4⟩)).1.1
    obtain ⟨a1, a2, a3, a4, -, a6⟩ := mThr_lt H hc' b3 (by omega) (by omega) hr hst
    exact low r _ g' hr b2 a4 (mStN_t2 H hn hc' a6 hr b3 b2 hst b4)
  · rcases (hsum _ _).mp hb with hb | hb
    · obtain ⟨c1, d1, f1, l, a, b, r, q1, q2, q3, q4, q5, q6, q7⟩ := hI.1 j g hj hb
      exact ⟨c1, d1, f1, l, a, b, r, q1, q2, mono _ _ _ q3, q4, q5, q6, mono _ _ _ q7⟩
    · rcases hb with ⟨h1, c1, f1, hc1, h9, h5, hf1, ⟨d1, hd1, hh⟩, b1, hj', b2⟩ | ⟨h9, a, b, ha, hb, b1, b2, hj', b3⟩
      · rw [(iP_P H).2.2.2.1] at hc1
        have h9' := h9
        rw [(iP_tell H hc1).2.1] at h9'
        obtain ⟨p, l, r, hp, hl, hr, e5, e47, e7, e49, e12, e39, e40, e43, q5, q47, q7, q49, q12, q39, q40⟩ := iP_cal H hc1 h9'
        exact ⟨c1, d1, f1, c / 169, c / 13 % 13, c % 13, r, hf1, hj', mono _ _ _ ⟨by omega, hd1, hf1, hh⟩, by omega, by omega, ⟨h9, (iP_lvM H hn h1 hc1 h9).mp h5, e49, b1, b2⟩, mono _ _ _ hR0⟩
      · have h9' := h9
        rw [(iP_tell H hn).2.1] at h9'
        obtain ⟨p, l, r, hp, hl, hr, e5, e47, e7, e49, e12, e39, e40, e43, q5, q47, q7, q49, q12, q39, q40⟩ := iP_cal H hn h9'
        rw [q47, q40] at b2
        exact ⟨c / 169, c / 13 % 13, c % 13, l + 1, a, b, r, by omega, hj', mono _ _ _ hR0, by omega, by omega, ⟨h9, by rw [q47, e40], e49, b1, b3⟩, mono _ _ _ ⟨by omega, ha, hb, b2⟩⟩
  · refine (hsum _ _).mpr ?_
    rcases hG _ _ _ z1 with z1 | ⟨rfl, rfl, rfl⟩
    · rcases hG _ _ _ z2 with z2 | ⟨rfl, rfl, rfl⟩
      · exact Or.inl (hI.2 c1 d1 f1 l a b r g hl hr z1 z2 hst)
      · obtain ⟨b1, b2, b3, b4⟩ := hs.2.2.1 _ _ _ z1
        have hc' : c1 < N := (PClo_lt H h0 (hs.1 _ _ _ ⟨b1, b2, b3, b4⟩)).1.1
        obtain ⟨a1, a2, a3, a4, -, a6⟩ := mThr_lt H hc' b3 (by omega) (by omega) hr hst
        obtain ⟨h9, h5, h7, x1, x2⟩ := hst
        exact Or.inr (Or.inl ⟨a6, c1, f1, by rw [(iP_P H).2.2.2.1]; exact hc', h9, (iP_lvM H hn a6 hc' h9).mpr h5, b3, ⟨d1, b2, b4⟩, x1, rfl, x2⟩)
    · have hla : mRq w l a b := by
        rcases hG _ _ _ z2 with z2 | ⟨rfl, rfl, rfl⟩
        · exact hs.2.2.1 _ _ _ z2
        · exact hR0
      obtain ⟨b1, b2, b3, b4⟩ := hla
      obtain ⟨h9, h5, h7, x1, x2⟩ := hst
      exact Or.inr (Or.inr ⟨h9, a, b, b2, b3, x1, by rw [h5, qn_nI (by omega)]; exact b4, rfl, x2⟩)
  · have hq3 : q ≠ 8 := fun z => hq (by simp [z])
    have := ho.2 q hq
    simp only [qq_ui, va_up, hq3, if_false] at this
    exact this
  · have z32 : j ≠ 32 := fun z => hj (by simp [z])
    have z33 : j ≠ 33 := fun z => hj (by simp [z])
    have z34 : j ≠ 34 := fun z => hj (by simp [z])
    have z35 : j ≠ 35 := fun z => hj (by simp [z])
    have := h8 j z32 z34 z35
    rw [this]
    show upd (w.1 8) 33 _ j = _
    rw [upd_at, if_neg z33]
