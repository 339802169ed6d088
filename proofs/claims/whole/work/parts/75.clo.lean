/-! PATH EDGES: what both look for -/
def iSt (w : qq_w) (N : Nat) : Prop := ∀ n p f g, n < N → p < 3 → (p = 0 ∨ cX w n 1 = 9) → f < 13 → (bt (w.1 19 (39 * n + 13 * p + f)) g = true ↔ mF w n p f g)
theorem iP_cal {w : qq_w} {N Pn E c : Nat} (H : iPrg w N Pn E) (hc : c < N) (h9 : cX w c 1 = 9) : ∃ p l r, p < Pn ∧ l + 1 < N ∧ r < N ∧ cX w c 5 = nI p ∧ w.1 47 c = nI p ∧ cX w c 7 = nI r ∧ w.1 49 c = nI r ∧ w.1 12 p = nI l ∧ w.1 39 p = nI l ∧ w.1 40 p = nI (l + 1) ∧ w.1 43 c = 9 ∧ qn (cX w c 5) = p ∧ qn (w.1 47 c) = p ∧ qn (cX w c 7) = r ∧ qn (w.1 49 c) = r ∧ qn (w.1 12 p) = l ∧ qn (w.1 39 p) = l ∧ qn (w.1 40 p) = l + 1 := by
  have hP8 : Pn ≤ 8 := H.1.2.1
  have hN : N ≤ 64 := H.1.1
  obtain ⟨-, t1, -, -, -, t5, -, t7, -⟩ := iP_tell H hc
  obtain ⟨q, hq, e0, p', r, m, hp', hr, hm, e5, v6, e7, r1, -⟩ := iP_call H hc h9
  obtain ⟨a, b, l, -, -, -, hl, g9, g37, g10, g38, g12, g39, g40, k0, k1, k2, k3, -⟩ := H.2.2.1 p' hp'
  rw [e5] at t5
  rw [e7] at t7
  refine ⟨p', l, r, hp', hl, hr, e5, t5, e7, t7 h9, g12, g39, g40, by rw [t1, h9], ?_⟩
  rw [e5, t5, e7, t7 h9, g12, g39, g40, qn_nI (by omega), qn_nI (by omega), qn_nI (by omega), qn_nI (by omega)]
  exact ⟨rfl, rfl, rfl, rfl, rfl, rfl, rfl⟩
theorem stp_eq {w : qq_w} {N Pn E n e t g : Nat} (H : iPrg w N Pn E) (hS : iSt w N) (hn : n < N) (he : e < 13) (ht : t < 64) : cStp w n e t g ↔ mStp w n e t g := by
  have hN : N ≤ 64 := H.1.1
  obtain ⟨-, t1, -⟩ := iP_tell H hn
  unfold cStp mStp
  rw [hS n 0 e g hn (by decide) (Or.inl rfl) he, t1, (iP_P H).2.2.2.2.2, iP_edge H hn]
  refine and_congr (or_congr (and_congr Iff.rfl (and_congr Iff.rfl ⟨fun z => z.2, fun z => ⟨?_, z⟩⟩)) ⟨fun z => ?_, fun z => ?_⟩) Iff.rfl
  · obtain ⟨k, hk, -, h2⟩ := z
    obtain ⟨a, b, ha, hb, e1, e2, e3, e4, -⟩ := H.2.2.2.1 k hk
    have := nI_inj (by omega) (by omega) (h2.symm.trans e4)
    omega
  · exact ⟨z.1, by rw [(iP_tell H hn).2.2.2.2.2.2.2.1 z.1, z.2]⟩
  · exact ⟨z.1, by rw [← (iP_tell H hn).2.2.2.2.2.2.2.1 z.1, z.2]⟩
theorem thr_eq {w : qq_w} {N Pn E c e l g h r g' : Nat} (H : iPrg w N Pn E) (hS : iSt w N) (hc : c < N) (he : e < 13) (hh : h < 13) : cThrR w c e l g h r g' ↔ mThr w c e l g h r g' := by
  have t1 := (iP_tell H hc).2.1
  constructor
  · rintro ⟨h9, h1, h2, h3, h4⟩
    obtain ⟨p, l', r', hp, hl, hr, e5, e47, e7, e49, e12, e39, e40, e43, q5, q47, q7, q49, q12, q39, q40⟩ := iP_cal H hc h9
    refine ⟨e43, ?_, ?_, (hS c 1 e g hc (by decide) (Or.inr h9) he).mp h3, (hS c 2 h g' hc (by decide) (Or.inr h9) hh).mp h4⟩
    · rw [q47, e40, ← h1, q5, e12]
      exact (nI_1 l').symm
    · rw [e49, ← e7, h2]
  · rintro ⟨h9, h1, h2, h3, h4⟩
    rw [t1] at h9
    obtain ⟨p, l', r', hp, hl, hr, e5, e47, e7, e49, e12, e39, e40, e43, q5, q47, q7, q49, q12, q39, q40⟩ := iP_cal H hc h9
    refine ⟨h9, ?_, ?_, (hS c 1 e g hc (by decide) (Or.inr h9) he).mpr h3, (hS c 2 h g' hc (by decide) (Or.inr h9) hh).mpr h4⟩
    · rw [q5, e12, ← h1, q47, e40]
      exact nI_1 l'
    · rw [e7, ← e49, h2]
theorem goI_eq {w : qq_w} {N Pn E c e m g : Nat} (H : iPrg w N Pn E) (hS : iSt w N) (hc : c < N) (he : e < 13) : cGoI w c e m g ↔ mGoI w c e m g := by
  have t1 := (iP_tell H hc).2.1
  constructor
  · rintro ⟨h9, h1, h3⟩
    obtain ⟨p, l', r', hp, hl, hr, e5, e47, e7, e49, e12, e39, e40, e43, q5, q47, q7, q49, q12, q39, q40⟩ := iP_cal H hc h9
    refine ⟨e43, ?_, (hS c 1 e g hc (by decide) (Or.inr h9) he).mp h3⟩
    rw [q47, e39, ← h1, q5, e12]
  · rintro ⟨h9, h1, h3⟩
    rw [t1] at h9
    obtain ⟨p, l', r', hp, hl, hr, e5, e47, e7, e49, e12, e39, e40, e43, q5, q47, q7, q49, q12, q39, q40⟩ := iP_cal H hc h9
    refine ⟨h9, ?_, (hS c 1 e g hc (by decide) (Or.inr h9) he).mpr h3⟩
    rw [q5, e12, ← h1, q47, e39]
theorem bgn_eq {w : qq_w} {N Pn E n f : Nat} (H : iPrg w N Pn E) (h0 : 0 < Pn) : cBg w n f ↔ mBg w n f := by
  obtain ⟨a, b, l, -, -, -, hl, g9, g37, g10, g38, g12, g39, -⟩ := H.2.2.1 0 h0
  unfold cBg mBg
  rw [(bg_eq H h0).1, g12, g39]
/-- where the steps lead -/
theorem mStp_lt {w : qq_w} {N Pn E n e t g : Nat} (H : iPrg w N Pn E) (hn : n < N) (he : e < 13) (ht : t < 64) (h : mStp w n e t g) : t < N ∧ g < 13 ∧ ¬ w.1 43 t = 0 := by
  have hN : N ≤ 64 := H.1.1
  obtain ⟨h1, h2⟩ := h
  refine (and_assoc.mp ⟨⟨?_, mF_lt H hn (by decide) he h2⟩, ?_⟩)
  · rcases h1 with ⟨-, -, k, hk, h3, h4⟩ | ⟨h9, h3⟩
    · rw [(iP_P H).2.2.2.2.2] at hk
      obtain ⟨a, b, ha, hb, e1, e2, e3, e4, -⟩ := H.2.2.2.1 k hk
      have := nI_inj (by omega) (by omega) (h4.symm.trans e4)
      omega
    · rw [(iP_tell H hn).2.1] at h9
      obtain ⟨p, l', r', hp, hl, hr, e5, e47, e7, e49, -⟩ := iP_cal H hn h9
      have := nI_inj (by omega) (by omega) (h3.symm.trans e49)
      omega
  · rcases h1 with ⟨-, -, k, hk, h3, h4⟩ | ⟨h9, h3⟩
    · rw [(iP_P H).2.2.2.2.2] at hk
      obtain ⟨a, b, ha, hb, e1, e2, e3, e4, -, -, -, z0, -⟩ := H.2.2.2.1 k hk
      have := nI_inj (by omega) (by omega) (h4.symm.trans e4)
      subst this
      rw [(iP_tell H hb).2.1]
      exact z0
    · rw [(iP_tell H hn).2.1] at h9
      obtain ⟨q, hq, e0, p', r, m, hp', hr, hm, e5, v6, e7, r1, -⟩ := iP_call H hn h9
      have t7 := (iP_tell H hn).2.2.2.2.2.2.2.1 h9
      have := nI_inj (by omega) (by omega) (h3.symm.trans (t7.trans e7))
      subst this
      rw [(iP_tell H hr).2.1, r1]
      decide
theorem mThr_lt {w : qq_w} {N Pn E c e l g h r g' : Nat} (H : iPrg w N Pn E) (hc : c < N) (he : e < 13) (hh : h < 13) (hl : l < 64) (hr : r < 64) (hT : mThr w c e l g h r g') : l < N ∧ r < N ∧ g < 13 ∧ g' < 13 ∧ w.1 43 r = 10 ∧ w.1 43 l = 1 := by
  have hN : N ≤ 64 := H.1.1
  obtain ⟨h9, h1, h2, h3, h4⟩ := hT
  rw [(iP_tell H hc).2.1] at h9
  obtain ⟨p, l', r', hp, hl', hr', e5, e47, e7, e49, e12, e39, e40, e43, q5, q47, -⟩ := iP_cal H hc h9
  obtain ⟨p2, r2, l2, -, hr2, hl2, f5, f7, f12, f1, f2, f3⟩ := (iP_cPW H).2.2.1 c hc h9
  rw [q47] at h1
  have a1 := nI_inj (by omega) (by omega) (h1.symm.trans e40)
  have a2 := nI_inj (by omega) (by omega) (h2.symm.trans e49)
  have a3 : r' = r2 := nI_inj (by omega) (by omega) (e7.symm.trans f7)
  obtain ⟨a, b, l3, -, -, -, hl3, g9, g37, g10, g38, g12, g39, g40, k0, k1, k2, k3, -⟩ := H.2.2.1 p hp
  have a4 : l' = l3 := nI_inj (by omega) (by omega) (e12.symm.trans g12)
  refine ⟨by omega, by omega, mF_lt H hc (by decide) he h3, mF_lt H hc (by decide) hh h4, ?_, ?_⟩
  · rw [(iP_tell H (n := r) (by omega)).2.1, a2, a3, f1]
  · rw [(iP_tell H (n := l) (by omega)).2.1, a1, a4, k3]
theorem mGoI_lt {w : qq_w} {N Pn E c e m g : Nat} (H : iPrg w N Pn E) (hc : c < N) (he : e < 13) (hm : m < 64) (hT : mGoI w c e m g) : m < N ∧ g < 13 ∧ w.1 43 m = 0 := by
  have hN : N ≤ 64 := H.1.1
  obtain ⟨h9, h1, h3⟩ := hT
  rw [(iP_tell H hc).2.1] at h9
  obtain ⟨p, l', r', hp, hl', hr', e5, e47, e7, e49, e12, e39, e40, e43, q5, q47, -⟩ := iP_cal H hc h9
  rw [q47] at h1
  have a1 := nI_inj (by omega) (by omega) (h1.symm.trans e39)
  obtain ⟨a, b, l3, -, -, -, hl3, g9, g37, g10, g38, g12, g39, g40, k0, k1, k2, k3, -⟩ := H.2.2.1 p hp
  have a4 : l' = l3 := nI_inj (by omega) (by omega) (e12.symm.trans g12)
  refine ⟨by omega, mF_lt H hc (by decide) he h3, ?_⟩
  rw [(iP_tell H (n := m) (by omega)).2.1, a1, a4, k1]
theorem mBg_lt {w : qq_w} {N Pn E n f : Nat} (H : iPrg w N Pn E) (h0 : 0 < Pn) (hn : n < 64) (h : mBg w n f) : n < N ∧ f < 13 ∧ w.1 43 n = 0 := by
  have hN : N ≤ 64 := H.1.1
  obtain ⟨hf, h1, -⟩ := h
  obtain ⟨a, b, l3, -, -, -, hl3, g9, g37, g10, g38, g12, g39, g40, k0, k1, k2, k3, -⟩ := H.2.2.1 0 h0
  have a1 := nI_inj (by omega) (by omega) (h1.symm.trans g39)
  refine ⟨by omega, hf, ?_⟩
  rw [(iP_tell H (n := n) (by omega)).2.1, a1, k1]
/-- the path edges of the program: n is come to with e by a valid path within its procedure from d at its enter -/
def PClo (w : qq_w) (n d e : Nat) : Prop := ∀ Q : Nat → Nat → Nat → Prop, (∀ n f, n < 64 → mBg w n f → Q n f f) → (∀ n d e t g, n < 64 → t < 64 → Q n d e → mStp w n e t g → Q t d g) → (∀ c d e m g, c < 64 → m < 64 → Q c d e → mGoI w c e m g → Q m g g) → (∀ c d e l g h r g', c < 64 → l < 64 → r < 64 → Q c d e → mThr w c e l g h r g' → Q l g h → Q r d g') → Q n d e
theorem PClo.bg {w : qq_w} {n f : Nat} (hn : n < 64) (h : mBg w n f) : PClo w n f f := fun _ h1 _ _ _ => h1 n f hn h
theorem PClo.stp {w : qq_w} {n d e t g : Nat} (hn : n < 64) (ht : t < 64) (h : PClo w n d e) (h2 : mStp w n e t g) : PClo w t d g := fun Q q1 q2 q3 q4 => q2 n d e t g hn ht (h Q q1 q2 q3 q4) h2
theorem PClo.goI {w : qq_w} {c d e m g : Nat} (hn : c < 64) (ht : m < 64) (h : PClo w c d e) (h2 : mGoI w c e m g) : PClo w m g g := fun Q q1 q2 q3 q4 => q3 c d e m g hn ht (h Q q1 q2 q3 q4) h2
theorem PClo.thr {w : qq_w} {c d e l g h r g' : Nat} (hc : c < 64) (hl : l < 64) (hr : r < 64) (a : PClo w c d e) (h2 : mThr w c e l g h r g') (b : PClo w l g h) : PClo w r d g' := fun Q q1 q2 q3 q4 => q4 c d e l g h r g' hc hl hr (a Q q1 q2 q3 q4) h2 (b Q q1 q2 q3 q4)
theorem PClo_lt {w : qq_w} {N Pn E n d e : Nat} (H : iPrg w N Pn E) (h0 : 0 < Pn) (h : PClo w n d e) : (n < N ∧ d < 13 ∧ e < 13) ∧ (w.1 43 n = 0 → e = d) := by
  refine h (fun n d e => (n < N ∧ d < 13 ∧ e < 13) ∧ (w.1 43 n = 0 → e = d)) ?_ ?_ ?_ ?_
  · intro n f hn hb
    obtain ⟨h1, h2, -⟩ := mBg_lt H h0 hn hb
    exact ⟨⟨h1, h2, h2⟩, fun _ => rfl⟩
  · rintro n d e t g hn ht ⟨⟨h1, h2, h3⟩, -⟩ hs
    obtain ⟨a1, a2, a3⟩ := mStp_lt H h1 h3 ht hs
    exact ⟨⟨a1, h2, a2⟩, fun z => absurd z a3⟩
  · rintro c d e m g hc hm ⟨⟨h1, h2, h3⟩, -⟩ hs
    obtain ⟨a1, a2, a3⟩ := mGoI_lt H h1 h3 hm hs
    exact ⟨⟨a1, a2, a2⟩, fun _ => rfl⟩
  · rintro c d e l g h r g' hc hl hr ⟨⟨h1, h2, h3⟩, -⟩ hs ⟨⟨k1, k2, k3⟩, -⟩
    obtain ⟨a1, a2, a3, a4, a5, -⟩ := mThr_lt H h1 h3 k3 hl hr hs
    exact ⟨⟨a2, h2, a4⟩, fun z => absurd (a5.symm.trans z) (by decide)⟩
/-- a search for them: R is found, G is gone on from -/
def srch (w : qq_w) (R G : Nat → Nat → Nat → Prop) : Prop :=
  (∀ n d e, R n d e → PClo w n d e) ∧ (∀ n f, n < 64 → mBg w n f → R n f f) ∧ (∀ n d e, G n d e → R n d e) ∧
  (∀ n d e, G n d e → (∀ t g, t < 64 → mStp w n e t g → R t d g) ∧ ∀ m g, m < 64 → mGoI w n e m g → R m g g) ∧
  ∀ c d e l g h r g', l < 64 → r < 64 → G c d e → mThr w c e l g h r g' → G l g h → R r d g'
theorem srch_done {w : qq_w} {R G : Nat → Nat → Nat → Prop} (h : srch w R G) (hG : ∀ n d e, R n d e → G n d e) {n d e : Nat} (hc : PClo w n d e) : R n d e := by
  obtain ⟨-, h1, -, h3, h4⟩ := h
  exact hc R h1 (fun n d e t g _ ht hr hs => (h3 n d e (hG n d e hr)).1 t g ht hs) (fun c d e m g _ hm hr hs => (h3 c d e (hG c d e hr)).2 m g hm hs) (fun c d e l g h r g' _ hl hr q hs q2 => h4 c d e l g h r g' hl hr (hG _ _ _ q) hs (hG _ _ _ q2))
theorem srch_turn {w : qq_w} {R G R' G' : Nat → Nat → Nat → Prop} (h : srch w R G) {n0 d0 e0 : Nat} (hR0 : R n0 d0 e0) (hm : ∀ n d e, R n d e → R' n d e) (hnew : ∀ n d e, R' n d e → R n d e ∨ PClo w n d e) (hG : ∀ n d e, G' n d e → G n d e ∨ (n = n0 ∧ d = d0 ∧ e = e0))
    (hU1 : ∀ t g, t < 64 → mStp w n0 e0 t g → R' t d0 g) (hU2 : ∀ m g, m < 64 → mGoI w n0 e0 m g → R' m g g) (hB1 : ∀ l g h r g', l < 64 → r < 64 → mThr w n0 e0 l g h r g' → R l g h → R' r d0 g') (hB2 : ∀ c d e r g', r < 64 → mThr w c e n0 d0 e0 r g' → R c d e → R' r d g') : srch w R' G' := by
  obtain ⟨h0, h1, h2, h3, h4⟩ := h
  refine ⟨fun n d e z => (hnew n d e z).elim (h0 n d e) id, fun n f hn hb => hm _ _ _ (h1 n f hn hb), fun n d e z => ?_, fun n d e z => ?_, fun c d e l g h r g' hl hr z1 hs z2 => ?_⟩
  · rcases hG n d e z with z | ⟨rfl, rfl, rfl⟩
    · exact hm _ _ _ (h2 _ _ _ z)
    · exact hm _ _ _ hR0
  · rcases hG n d e z with z | ⟨rfl, rfl, rfl⟩
    · exact ⟨fun t g ht hs => hm _ _ _ ((h3 n d e z).1 t g ht hs), fun m g hm' hs => hm _ _ _ ((h3 n d e z).2 m g hm' hs)⟩
    · exact ⟨hU1, hU2⟩
  · rcases hG c d e z1 with z1 | ⟨rfl, rfl, rfl⟩
    · rcases hG l g h z2 with z2 | ⟨rfl, rfl, rfl⟩
      · exact hm _ _ _ (h4 c d e l g h r g' hl hr z1 hs z2)
      · exact hB2 c d e r g' hr hs (h2 _ _ _ z1)
    · rcases hG l g h z2 with z2 | ⟨rfl, rfl, rfl⟩
      · exact hB1 l g h r g' hl hr hs (h2 _ _ _ z2)
      · exact hB1 _ _ _ r g' hl hr hs hR0
