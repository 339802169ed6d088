/-! what the methods ask of the program, out of iPrg -/
theorem iP_edge {w : qq_w} {N Pn E n t : Nat} (H : iPrg w N Pn E) (hn : n < N) : lb (w.2 17 n) t = true ↔ t < N ∧ ∃ k, k < E ∧ w.1 52 k = nI n ∧ w.1 53 k = nI t := by
  have hN : N ≤ 64 := H.1.1
  rw [H.2.2.2.2.1 n t (by omega)]
  constructor
  · rintro ⟨ht, k, hk, h1, h2⟩
    obtain ⟨a, b, ha, hb, e1, e2, e3, e4, -⟩ := H.2.2.2.1 k hk
    have hb' : t = b := nI_inj (by omega) (by omega) (h2.symm.trans e3)
    exact ⟨by omega, k, hk, by rw [e2, ← e1, h1], by rw [e4, ← e3, h2]⟩
  · rintro ⟨ht, k, hk, h1, h2⟩
    obtain ⟨a, b, ha, hb, e1, e2, e3, e4, -⟩ := H.2.2.2.1 k hk
    exact ⟨by omega, k, hk, by rw [e1, ← e2, h1], by rw [e3, ← e4, h2]⟩
theorem iP_cPW {w : qq_w} {N Pn E : Nat} (H : iPrg w N Pn E) : cPW w N := by
  have hP8 : Pn ≤ 8 := H.1.2.1
  refine ⟨H.1.2.2.2.1, H.1.1, fun c hc h9 => ?_, fun n t hn ht => ((iP_edge H hn).mp ht).1⟩
  obtain ⟨q, hq, e0, p', r, m, hp', hr, hm, e5, v6, e7, r1, -⟩ := iP_call H hc h9
  obtain ⟨a, b, l, -, -, -, hl, g9, g37, g10, g38, g12, g39, g40, k0, k1, k2, k3, -⟩ := H.2.2.1 p' hp'
  exact ⟨p', r, l, by omega, hr, hl, e5, e7, g12, r1, k1, k3⟩
theorem iP_mFN {w : qq_w} {N Pn E n : Nat} (H : iPrg w N Pn E) (hn : n < N) : cFN w n ∧ mFN w n := by
  have hP8 : Pn ≤ 8 := H.1.2.1
  obtain ⟨-, t1, -, -, -, t5, -, -, t8, -⟩ := iP_tell H hn
  obtain ⟨p, k, hp, hk, e0, e1, -⟩ := iP_kind H hn
  have key : cX w n 1 = 9 → ∃ p', p' < 8 ∧ cX w n 5 = nI p' ∧ vp_in (cX w n 8) 5 ∧ ∃ a b, a ≤ 8 ∧ b ≤ 4 ∧ b ≤ a ∧ w.1 9 p' = nI a ∧ w.1 37 p' = nI a ∧ w.1 10 p' = nI b ∧ w.1 38 p' = nI b := by
    intro h9
    obtain ⟨q, hq, e0, p', r, m, hp', hr, hm, e5, v6, e7, r1, r0, r9, e8, -⟩ := iP_call H hn h9
    obtain ⟨a, b, l, ha, hb, hba, hl, g9, g37, g10, g38, -⟩ := H.2.2.1 p' hp'
    exact ⟨p', by omega, e5, i_in 5 e8 (by omega) (by decide), a, b, ha, hb, hba, g9, g37, g10, g38⟩
  refine ⟨⟨i_in 11 e1 (by omega) (by decide), fun h9 => ?_⟩, fun h9 => ?_⟩
  · obtain ⟨p', hp', e5, h8, a, b, ha, hb, hba, g9, g37, g10, g38⟩ := key h9
    rw [e5, qn_nI (i := p') (by omega), g9, g10, qn_nI (i := a) (by omega), qn_nI (i := b) (by omega)]
    exact ⟨i_in 8 rfl (by omega) (by decide), h8, i_in 5 rfl (by omega) (by decide), i_in 9 rfl (by omega) (by decide), hba⟩
  · rw [t1] at h9
    obtain ⟨p', hp', e5, h8, a, b, ha, hb, hba, g9, g37, g10, g38⟩ := key h9
    rw [t5, t8, e5, qn_nI (i := p') (by omega), g37, g38, qn_nI (i := a) (by omega), qn_nI (i := b) (by omega)]
    exact ⟨i_in 8 rfl (by omega) (by decide), h8, i_in 5 rfl (by omega) (by decide), i_in 9 rfl (by omega) (by decide), hba⟩
theorem iP_mPW {w : qq_w} {N Pn E : Nat} (H : iPrg w N Pn E) : mPW w N := by
  have hP8 : Pn ≤ 8 := H.1.2.1
  have hN : N ≤ 64 := H.1.1
  refine ⟨H.1.2.2.2.2.1, H.1.1, fun c hc h9 => ?_, ⟨E, H.1.2.2.1, H.1.2.2.2.2.2.2.2.2.1, fun k hk => ?_⟩, fun n hn => (iP_mFN H hn).2, fun n p f x hn hp hf h => tg_fs H hn hp hf ((tg_eq H hn hp hf).mpr h)⟩
  · obtain ⟨-, t1, -, -, -, t5, -, t7, -⟩ := iP_tell H hc
    rw [t1] at h9
    obtain ⟨q, hq, e0, p', r, m, hp', hr, hm, e5, v6, e7, r1, -⟩ := iP_call H hc h9
    obtain ⟨a, b, l, -, -, -, hl, g9, g37, g10, g38, g12, g39, g40, k0, k1, k2, k3, -⟩ := H.2.2.1 p' hp'
    exact ⟨p', r, l, by omega, hr, hl, by rw [t5, e5], by rw [t7 h9, e7], g39, g40, by rw [(iP_tell H hr).2.1, r1], by rw [(iP_tell H (n := l) (by omega)).2.1, k1], by rw [(iP_tell H hl).2.1, k3]⟩
  · obtain ⟨a, b, ha, hb, e1, e2, e3, e4, -⟩ := H.2.2.2.1 k hk
    exact ⟨a, b, ha, hb, e2, e4⟩
theorem iP_own {w : qq_w} {N Pn E : Nat} (H : iPrg w N Pn E) : cOwn w N Pn := by
  have hP8 : Pn ≤ 8 := H.1.2.1
  refine ⟨fun n hn => ?_, fun c hc h9 => ?_⟩
  · obtain ⟨p, k, hp, hk, e0, e1, -⟩ := iP_kind H hn
    obtain ⟨a, b, l, -, -, -, hl, g9, g37, g10, g38, g12, g39, g40, k0, k1, k2, k3, -⟩ := H.2.2.1 p hp
    exact ⟨p, l, hp, by omega, e0, g12, k0, k1⟩
  · obtain ⟨q, hq, e0, p', r, m, hp', hr, hm, e5, -⟩ := iP_call H hc h9
    rw [e5, qn_nI (by omega)]
    exact hp'
theorem iP_mOwn {w : qq_w} {N Pn E : Nat} (H : iPrg w N Pn E) : mOwn w N := by
  intro n hn
  have hP8 : Pn ≤ 8 := H.1.2.1
  obtain ⟨p, k, hp, hk, e0, e1, -⟩ := iP_kind H hn
  obtain ⟨a, b, l, -, -, -, hl, g9, g37, g10, g38, g12, g39, g40, k0, k1, k2, k3, -⟩ := H.2.2.1 p hp
  exact ⟨p, l, by omega, by omega, by rw [(iP_tell H hn).1, e0], g39, by rw [(iP_tell H (n := l) (by omega)).2.1, k1]⟩
theorem iP_P {w : qq_w} {N Pn E : Nat} (H : iPrg w N Pn E) : qn (w.1 1 9) = Pn ∧ qn (w.1 8 2) = Pn ∧ qn (w.1 1 10) = N ∧ qn (w.1 8 8) = N ∧ qn (w.1 1 11) = E ∧ qn (w.1 8 20) = E := by
  obtain ⟨hN, hP, hE, e10, e88, e9, e82, e11, e820, -⟩ := H.1
  rw [e10, e88, e9, e82, e11, e820, qn_nI (by omega), qn_nI (by omega), qn_nI (by omega)]
  exact ⟨rfl, rfl, rfl, rfl, rfl, rfl⟩
theorem iP_enN {w : qq_w} {N Pn E : Nat} (H : iPrg w N Pn E) : mEnN w N := by
  intro p hp
  rw [(iP_P H).2.1] at hp
  obtain ⟨a, b, l, -, -, -, hl, g9, g37, g10, g38, g12, g39, g40, k0, k1, k2, k3, -⟩ := H.2.2.1 p hp
  exact ⟨l, by omega, g39, by rw [(iP_tell H (n := l) (by omega)).2.1, k1]⟩
theorem iP_lvO {w : qq_w} {N Pn E : Nat} (H : iPrg w N Pn E) : cLvO w N := by
  have hP8 : Pn ≤ 8 := H.1.2.1
  have hN : N ≤ 64 := H.1.1
  intro n hn h1 c hc h9
  obtain ⟨p, k, hp, hk, e0, e1, ⟨-, hl1⟩, -⟩ := iP_kind H hn
  have hk1 : k = 1 := nI_inj (by omega) (by decide) (e1.symm.trans h1)
  obtain ⟨l, rfl, e12⟩ := hl1 hk1
  obtain ⟨q, hq, f0, p', r, m, hp', hr, hm, e5, -⟩ := iP_call H hc h9
  obtain ⟨a, b, l', -, -, -, hl', g9, g37, g10, g38, g12, g39, g40, k0, k1, k2, k3, -⟩ := H.2.2.1 p' hp'
  rw [e5, e0, qn_nI (i := p') (by omega), g12]
  constructor
  · intro z
    have := nI_inj (by omega) (by omega) z
    subst this
    rw [← g12, e12]
    exact nI_1 l
  · intro z
    have z2 : nI (l' + 1) = nI (l + 1) := (nI_1 l').symm.trans z
    have := nI_inj (by omega) (by omega) z2
    have hll : l' = l := by omega
    subst hll
    rw [← k2, ← e0]
theorem iP_mRo {w : qq_w} {N Pn E n : Nat} (H : iPrg w N Pn E) (hn : n < N) : mRo w n ∧ mRoom w n := by
  have hP8 : Pn ≤ 8 := H.1.2.1
  obtain ⟨-, t1, -, -, -, t5, -, -, t8, -⟩ := iP_tell H hn
  obtain ⟨p, k, hp, hk, e0, e1, -, -, -, -, ⟨-, h5⟩, -⟩ := iP_kind H hn
  by_cases h9 : cX w n 1 = 9
  · obtain ⟨q, hq, f0, p', r, m, hp', hr, hm, e5, v6, e7, r1, r0, r9, e8, -⟩ := iP_call H hn h9
    refine ⟨⟨fun _ => ?_, fun z => absurd (t1.trans h9) z⟩, Or.inl ?_⟩
    · rw [t8, t5, e5, e8]
      exact ⟨i_in 5 rfl (by omega) (by decide), i_in 8 rfl (by omega) (by decide)⟩
    · rw [t8, e8, qn_nI (by omega)]
      exact ⟨rfl, by omega⟩
  · have hk9 : ¬ k = 9 := fun z => h9 (by rw [e1, z]; rfl)
    obtain ⟨-, -, -, h8⟩ := h5 hk9
    refine ⟨⟨fun z => absurd (t1.symm.trans z) h9, fun _ => by rw [t8, h8]⟩, Or.inr ?_⟩
    rw [t8, h8]
    exact ⟨rfl, by decide⟩
theorem iP_cRk {w : qq_w} {N Pn E n : Nat} (H : iPrg w N Pn E) (hn : n < N) : cRk w n := by
  obtain ⟨p, k, hp, hk, e0, e1, -, ⟨hx, -⟩, ⟨hy, -⟩, ⟨hz, -⟩, -⟩ := iP_kind H hn
  have hpr := H.2.2.1 p hp
  have ek : ∀ j : Nat, j < 11 → cX w n 1 = nI j → k = j := fun j hj h => nI_inj (by omega) (by omega) (e1.symm.trans h)
  have hv : ∀ v, iVar w p v → vp_in v 13 := fun v h => by
    obtain ⟨x, h1, h2, h3⟩ := iVar_lt hpr h
    exact i_in 13 h3 h2 (by decide)
  refine ⟨i_in 11 e1 hk (by decide), fun h => ?_, fun h => ?_, fun h => ?_, fun h => ?_⟩
  · have := ek 8 (by decide) h
    exact hv _ (hx (by omega))
  · refine hv _ (hy ?_)
    rcases h with h | h
    · exact Or.inl (ek 4 (by decide) h)
    · exact Or.inr (ek 5 (by decide) h)
  · exact hv _ (hz (ek 5 (by decide) h))
  · obtain ⟨q, hq, f0, p', r, m, hp', hr, hm, e5, v6, e7, r1, r0, r9, e8, ha⟩ := iP_call H hn h
    refine ⟨i_in 5 e8 (by omega) (by decide), fun i hi => ?_⟩
    rw [e8, qn_nI (by omega)] at hi
    rcases iVarO_lt (H.2.2.1 q hq) (ha i (by omega)).1 with z | ⟨x, h1, h2, h3⟩
    · exact Or.inl z
    · exact Or.inr (i_in 13 h3 h2 (by decide))
theorem iP_ret {w : qq_w} {N Pn E n : Nat} (H : iPrg w N Pn E) (hn : n < N) (h : cX w n 1 = 10) : ∃ c p, c < N ∧ p < Pn ∧ cX w n 9 = nI c ∧ w.1 49 n = nI c ∧ cX w c 1 = 9 ∧ cX w c 7 = nI n ∧ cX w c 0 = nI p ∧ cX w n 0 = nI p := by
  obtain ⟨p, k, hp, hk, e0, e1, -, -, -, -, -, ⟨h10, -⟩⟩ := iP_kind H hn
  have := nI_inj (by omega) (by decide) (e1.symm.trans h)
  obtain ⟨c, hc, h9, hc1, hc7, hc0⟩ := h10 this
  exact ⟨c, p, hc, hp, h9, by rw [(iP_tell H hn).2.2.2.2.2.2.2.2.2 h, h9], hc1, hc7, hc0, e0⟩
