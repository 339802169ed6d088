/-! LENGTHS: what both measure is the same -/
def cLen (w : qq_w) (N M : Nat) : Prop := (∀ n d e, n < N → d < 13 → e < 13 → lMin (w.2 33 (169 * n + 13 * d + e)) 2000000000000 (cLD w n d e)) ∧ (∀ n f, n < N → f < 13 → lMin (w.2 24 (13 * n + f)) 2000000000000 (cWD w N n f)) ∧ ∀ p d m, p < M → d < 13 → m < N → w.1 12 p = nI m → lMin (w.2 22 (13 * p + d)) 2000000000000 (cWD w N m d)
def mLenN (w : qq_w) (N : Nat) : Prop := (∀ n d e, n < N → d < 13 → e < 13 → lMin (w.2 59 (169 * n + 13 * d + e)) 4000000000000000000 (mLD w n d e)) ∧ ∀ n f, n < N → f < 13 → lMin (w.2 60 (13 * n + f)) 4000000000000000000 (mWD w N n f)
theorem lMin_iff {x : Int64} {U : Nat} {D D' : Nat → Prop} (h : lMin x U D) (e : ∀ L, D L ↔ D' L) : lMin x U D' := by
  have : D = D' := funext fun L => propext (e L)
  exact this ▸ h
theorem lMin_b {x : Int64} {U b : Nat} {D : Nat → Prop} (hU : U < 2 ^ 63) (hU2 : 1000000000000 < U) (hb : b ≤ 1000000000000) (h : lMin x U D) : x = lN b ↔ D b ∧ ∀ L, D L → b ≤ L := by
  rcases h with ⟨L, rfl, h1, h2, h3⟩ | ⟨rfl, h1⟩
  · rw [lL_eq (by omega) (by omega)]
    constructor
    · rintro rfl
      exact ⟨h2, h3⟩
    · rintro ⟨g1, g2⟩
      have := g2 L h2
      have := h3 b g1
      omega
  · rw [lL_eq hU (by omega)]
    constructor
    · intro z
      omega
    · rintro ⟨g1, -⟩
      exact absurd g1 (h1 b)
theorem lu_min {x y : Int64} {U U' : Nat} {D D' : Nat → Prop} (hU : U < 2 ^ 63) (hU2 : 1000000000000 < U) (hU' : U' < 2 ^ 63) (hU2' : 1000000000000 < U') (h : lMin x U D) (h' : lMin y U' D') (e : ∀ L, D L ↔ D' L) : lu x = lu y := by
  rcases h with ⟨L, rfl, h1, h2, h3⟩ | ⟨rfl, h1⟩
  · have := (lMin_b hU' hU2' h1 h').mpr ⟨(e L).mp h2, fun L' z => h3 L' ((e L').mpr z)⟩
    rw [this]
  · rcases h' with ⟨L, rfl, g1, g2, g3⟩ | ⟨rfl, g1⟩
    · exact absurd ((e L).mpr g2) (h1 L)
    · unfold lu
      rw [lq_lN hU, lq_lN hU', if_neg (by omega), if_neg (by omega)]
/-- level paths: derived, within what is found -/
theorem mLD_lt {w : qq_w} {N Pn E n d e L : Nat} (H : iPrg w N Pn E) (h : mLD w n d e L) : n < N ∧ d < 13 ∧ e < 13 ∧ L ≤ 1000000000000 := by
  have hN : N ≤ 64 := H.1.1
  refine h (fun n d e L => n < N ∧ d < 13 ∧ e < 13 ∧ L ≤ 1000000000000) ?_ ?_ ?_
  · rintro n d hn ⟨hd, ⟨p, hp, e39⟩, -⟩
    rw [(iP_P H).2.1] at hp
    obtain ⟨a, b, l, -, -, -, hl, g9, g37, g10, g38, g12, g39, -⟩ := H.2.2.1 p hp
    have := nI_inj (by omega) (by omega) (e39.symm.trans g39)
    exact ⟨by omega, hd, hd, by omega⟩
  · rintro n d e t g a hn ht ⟨h1, h2, h3, h4⟩ hs
    obtain ⟨a1, a2, -⟩ := mStp_lt H h1 h3 ht hs
    exact ⟨a1, h2, a2, lcap_le _⟩
  · rintro c d e l g h r g' a b hc hl hr ⟨h1, h2, h3, h4⟩ hs ⟨k1, k2, k3, k4⟩
    obtain ⟨a1, a2, a3, a4, -⟩ := mThr_lt H h1 h3 k3 hl hr hs
    exact ⟨a2, h2, a4, lcap_le _⟩
theorem mEnt_clo {w : qq_w} {N Pn E t n d : Nat} (H : iPrg w N Pn E) (hm : mBeg w N Pn t t) (hn : n < 64) : mEnt w n d ↔ d < 13 ∧ (∃ p, p < Pn ∧ w.1 39 p = nI n) ∧ PClo w n d d := by
  have hN : N ≤ 64 := H.1.1
  unfold mEnt
  rw [(iP_P H).2.1]
  refine and_congr Iff.rfl ⟨?_, ?_⟩
  · rintro ⟨⟨p, hp, e⟩, d', hd', hb⟩
    have hc := (done_row hm hn hd').mp hb
    obtain ⟨a, b, l, -, -, -, hl, g9, g37, g10, g38, g12, g39, g40, k0, k1, -⟩ := H.2.2.1 p hp
    have hnl := nI_inj (by omega) (by omega) (e.symm.trans g39)
    have k43 : w.1 43 n = 0 := by rw [(iP_tell H (n := n) (by omega)).2.1, hnl, k1]
    have := (PClo_lt H hm.1 hc).2 k43
    subst this
    exact ⟨⟨p, hp, e⟩, hc⟩
  · rintro ⟨h1, h2⟩
    have := (PClo_lt H hm.1 h2).1.2.1
    exact ⟨h1, d, this, (done_row hm hn this).mpr h2⟩
theorem cEnt_clo {w : qq_w} {N Pn E t n d : Nat} (H : iPrg w N Pn E) (hc : cBeg w N Pn t t) (hn : n < 64) : cEnt w n d ↔ d < 13 ∧ (∃ p, p < Pn ∧ w.1 39 p = nI n) ∧ PClo w n d d := by
  have hN : N ≤ 64 := H.1.1
  unfold cEnt
  rw [(iP_P H).1]
  refine ⟨?_, ?_⟩
  · rintro ⟨h1, ⟨p, hp, e⟩, h2⟩
    obtain ⟨a, b, l, -, -, -, hl, g9, g37, g10, g38, g12, g39, -⟩ := H.2.2.1 p hp
    exact ⟨h1, ⟨p, hp, by rw [g39, ← g12, e]⟩, (done_rowc hc hn h1).mp h2⟩
  · rintro ⟨h1, ⟨p, hp, e⟩, h2⟩
    obtain ⟨a, b, l, -, -, -, hl, g9, g37, g10, g38, g12, g39, -⟩ := H.2.2.1 p hp
    exact ⟨h1, ⟨p, hp, by rw [g12, ← g39, e]⟩, (done_rowc hc hn h1).mpr h2⟩
theorem ld_eq {w : qq_w} {N Pn E t n d e L : Nat} (H : iPrg w N Pn E) (hc : cBeg w N Pn t t) (hm : mBeg w N Pn t t) : cLD w n d e L ↔ mLD w n d e L := by
  have hN : N ≤ 64 := H.1.1
  have hS := hc.2.2.1
  constructor
  · intro h
    refine (h (fun n d e L => (n < N ∧ d < 13 ∧ e < 13) ∧ mLD w n d e L) ?_ ?_ ?_).2
    · intro n d hn he
      have he := (mEnt_clo H hm hn).mpr ((cEnt_clo H hc hn).mp he)
      have := LDer.ent (Ent := mEnt w) (Stp := mStp w) (Thr := mThr w) he hn
      obtain ⟨a1, a2, a3, -⟩ := mLD_lt H this
      exact ⟨⟨a1, a2, a3⟩, this⟩
    · rintro n d e t g a hn ht ⟨⟨h1, h2, h3⟩, h4⟩ hs
      have := LDer.stp h4 ((stp_eq H hS h1 h3 ht).mp hs) hn ht
      obtain ⟨a1, a2, a3, -⟩ := mLD_lt H this
      exact ⟨⟨a1, a2, a3⟩, this⟩
    · rintro c d e l g h r g' a b hc hl hr ⟨⟨h1, h2, h3⟩, h4⟩ hs ⟨⟨k1, k2, k3⟩, k4⟩
      have := LDer.thr h4 ((thr_eq H hS h1 h3 k3).mp hs) k4 hc hl hr
      obtain ⟨a1, a2, a3, -⟩ := mLD_lt H this
      exact ⟨⟨a1, a2, a3⟩, this⟩
  · intro h
    refine (h (fun n d e L => (n < N ∧ d < 13 ∧ e < 13) ∧ cLD w n d e L) ?_ ?_ ?_).2
    · intro n d hn he
      obtain ⟨a1, a2, a3, -⟩ := mLD_lt H (LDer.ent (Ent := mEnt w) (Stp := mStp w) (Thr := mThr w) he hn)
      exact ⟨⟨a1, a2, a3⟩, LDer.ent ((cEnt_clo H hc hn).mpr ((mEnt_clo H hm hn).mp he)) hn⟩
    · rintro n d e t g a hn ht ⟨⟨h1, h2, h3⟩, h4⟩ hs
      obtain ⟨a1, a2, -⟩ := mStp_lt H h1 h3 ht hs
      exact ⟨⟨a1, h2, a2⟩, LDer.stp h4 ((stp_eq H hS h1 h3 ht).mpr hs) hn ht⟩
    · rintro c d e l g h r g' a b hc hl hr ⟨⟨h1, h2, h3⟩, h4⟩ hs ⟨⟨k1, k2, k3⟩, k4⟩
      obtain ⟨a1, a2, a3, a4, -⟩ := mThr_lt H h1 h3 k3 hl hr hs
      exact ⟨⟨a2, h2, a4⟩, LDer.thr h4 ((thr_eq H hS h1 h3 k3).mpr hs) k4 hc hl hr⟩
theorem ld_clo {w : qq_w} {N Pn E t n d e L : Nat} (H : iPrg w N Pn E) (hm : mBeg w N Pn t t) (h : mLD w n d e L) : PClo w n d e := by
  refine h (fun n d e _ => PClo w n d e) ?_ ?_ ?_
  · intro n d hn he
    exact ((mEnt_clo H hm hn).mp he).2.2
  · intro n d e t g a hn ht h1 hs
    exact PClo.stp hn ht h1 hs
  · intro c d e l g h r g' a b hc hl hr h1 hs h2
    exact PClo.thr hc hl hr h1 hs h2
/-- the last step of a level path -/
theorem ld_inv {w : qq_w} {N Pn E n d e L : Nat} (H : iPrg w N Pn E) (h : mLD w n d e L) : (L = 0 ∧ e = d ∧ mEnt w n d) ∨ (∃ m f a, m < N ∧ f < 13 ∧ mLD w m d f a ∧ mStp w m f n e ∧ L = lcap (a + 1)) ∨ ∃ c f a l g h b, c < N ∧ f < 13 ∧ l < N ∧ g < 13 ∧ h < 13 ∧ mLD w c d f a ∧ mThr w c f l g h n e ∧ mLD w l g h b ∧ L = lcap (a + b + 2) := by
  refine (h (fun n d e L => mLD w n d e L ∧ ((L = 0 ∧ e = d ∧ mEnt w n d) ∨ (∃ m f a, m < N ∧ f < 13 ∧ mLD w m d f a ∧ mStp w m f n e ∧ L = lcap (a + 1)) ∨ ∃ c f a l g h b, c < N ∧ f < 13 ∧ l < N ∧ g < 13 ∧ h < 13 ∧ mLD w c d f a ∧ mThr w c f l g h n e ∧ mLD w l g h b ∧ L = lcap (a + b + 2))) ?_ ?_ ?_).2
  · intro n d hn he
    exact ⟨LDer.ent he hn, Or.inl ⟨rfl, rfl, he⟩⟩
  · rintro n d e t g a hn ht ⟨h1, -⟩ hs
    obtain ⟨a1, a2, a3, -⟩ := mLD_lt H h1
    exact ⟨LDer.stp h1 hs hn ht, Or.inr (Or.inl ⟨n, e, a, a1, a3, h1, hs, rfl⟩)⟩
  · rintro c d e l g h r g' a b hc hl hr ⟨h1, -⟩ hs ⟨h2, -⟩
    obtain ⟨a1, a2, a3, -⟩ := mLD_lt H h1
    obtain ⟨b1, b2, b3, -⟩ := mLD_lt H h2
    exact ⟨LDer.thr h1 hs h2 hc hl hr, Or.inr (Or.inr ⟨c, e, a, l, g, h, b, a1, a3, b1, b2, b3, h1, hs, h2, rfl⟩)⟩
theorem ld_enter {w : qq_w} {N Pn E n d e L : Nat} (H : iPrg w N Pn E) (h : mLD w n d e L) (h0 : w.1 43 n = 0) : L = 0 ∧ e = d := by
  have hN : N ≤ 64 := H.1.1
  have hn := (mLD_lt H h).1
  rcases ld_inv H h with ⟨h1, h2, -⟩ | ⟨m, f, a, hm, hf, h1, hs, -⟩ | ⟨c, f, a, l, g, h', b, hc, hf, hl, hg, hh, h1, hs, h2, -⟩
  · exact ⟨h1, h2⟩
  · exact absurd h0 (mStp_lt H hm hf (by omega) hs).2.2
  · exact absurd (h0.symm.trans (mThr_lt H hc hf hh (by omega) (by omega) hs).2.2.2.2.1) (by decide)
/-- the owner's enter -/
theorem iP_pr {w : qq_w} {N Pn E n : Nat} (H : iPrg w N Pn E) (hn : n < N) : ∃ p m, p < Pn ∧ m + 1 < N ∧ w.1 42 n = nI p ∧ qn (w.1 42 n) = p ∧ w.1 39 p = nI m ∧ qn (w.1 39 p) = m ∧ cX w n 0 = nI p ∧ qn (cX w n 0) = p ∧ w.1 12 p = nI m ∧ qn (w.1 12 p) = m ∧ w.1 43 m = 0 ∧ w.1 42 m = nI p ∧ mPr w n m ∧ mPr w m m ∧ cPr w n m ∧ (w.1 43 n = 0 → m = n) := by
  have hP8 : Pn ≤ 8 := H.1.2.1
  have hN : N ≤ 64 := H.1.1
  obtain ⟨p, k, hp, hk, e0, e1, ⟨hk0, -⟩, -⟩ := iP_kind H hn
  obtain ⟨a, b, l, -, -, -, hl, g9, g37, g10, g38, g12, g39, g40, k0, k1, -⟩ := H.2.2.1 p hp
  have t0 := (iP_tell H hn).1
  have t0l := (iP_tell H (n := l) (by omega)).1
  have t1l := (iP_tell H (n := l) (by omega)).2.1
  have q42 : qn (w.1 42 n) = p := by rw [t0, e0, qn_nI (by omega)]
  have q42l : qn (w.1 42 l) = p := by rw [t0l, k0, qn_nI (by omega)]
  have q0 : qn (cX w n 0) = p := by rw [e0, qn_nI (by omega)]
  refine ⟨p, l, hp, hl, by rw [t0, e0], q42, g39, by rw [g39, qn_nI (by omega)], e0, q0, g12, by rw [g12, qn_nI (by omega)], by rw [t1l, k1], by rw [t0l, k0], ?_, ?_, ?_, fun z => ?_⟩
  · unfold mPr
    rw [q42, g39]
  · unfold mPr
    rw [q42l, g39]
  · unfold cPr
    rw [q0, g12]
  · rw [(iP_tell H hn).2.1, e1] at z
    have : k = 0 := nI_inj (b := 0) (by omega) (by decide) z
    exact nI_inj (by omega) (by omega) (g12.symm.trans (hk0 this))
theorem mPr_uq {w : qq_w} {n m m' : Nat} (hm : m < 64) (hm' : m' < 64) (h : mPr w n m) (h' : mPr w n m') : m = m' := nI_inj (by omega) (by omega) (h.symm.trans h')
/-- whole paths -/
theorem wd_lt {w : qq_w} {N Pn E t n f L : Nat} (H : iPrg w N Pn E) (hm : mBeg w N Pn t t) (hL : mLenN w N) (h : mWD w N n f L) : n < N ∧ f < 13 ∧ L ≤ 1000000000000 ∧ ∃ d, PClo w n d f := by
  have hN : N ≤ 64 := H.1.1
  refine h (fun n f L => n < N ∧ f < 13 ∧ L ≤ 1000000000000 ∧ ∃ d, PClo w n d f) ?_ ?_ ?_
  · intro n f hn hb
    obtain ⟨a1, a2, -⟩ := mBg_lt H hm.1 hn hb
    exact ⟨a1, a2, by omega, f, PClo.bg hn hb⟩
  · rintro n m d f a b hn hm' hp ⟨h1, h2, h3, -⟩ ⟨k1, k2, k3, k4, k5⟩
    have hd := ((lMin_b (by omega) (by omega) k5 (hL.1 n d f k1 k2 k3)).mp k4).1
    exact ⟨k1, k3, lcap_le _, d, ld_clo H hm hd⟩
  · rintro c f m g a hc hm' ⟨h1, h2, h3, d, h4⟩ hs
    obtain ⟨a1, a2, -⟩ := mGoI_lt H h1 h2 hm' hs
    exact ⟨a1, a2, lcap_le _, g, PClo.goI hc hm' h4 hs⟩
theorem wd_eq {w v : qq_w} {N Pn E n f L : Nat} (H : iPrg w N Pn E) (h0 : 0 < Pn) (hS : iSt w N) (hv : v.1 = w.1) (hL : ∀ n d f b, n < N → d < 13 → f < 13 → b ≤ 1000000000000 → (w.2 33 (169 * n + 13 * d + f) = lN b ↔ v.2 59 (169 * n + 13 * d + f) = lN b)) : cWD w N n f L ↔ mWD v N n f L := by
  have hN : N ≤ 64 := H.1.1
  have eB : mBg v = mBg w := by
    funext n f
    unfold mBg mBegin
    rw [hv]
  have eF : mF v = mF w := by
    funext n p f g
    unfold mF mTgt mStr mAcr mBk mInto
    rw [hv]
  have eG : mGoI v = mGoI w := by
    funext c f m g
    unfold mGoI
    rw [hv, eF]
  have eP : mPr v = mPr w := by
    funext c m
    unfold mPr
    rw [hv]
  have hK : ∀ n d f b, cLvK w N n d f b ↔ mLvK v N n d f b := by
    intro n d f b
    constructor
    · rintro ⟨h1, h2, h3, h4, h5⟩
      exact ⟨h1, h2, h3, (hL n d f b h1 h2 h3 h5).mp h4, h5⟩
    · rintro ⟨h1, h2, h3, h4, h5⟩
      exact ⟨h1, h2, h3, (hL n d f b h1 h2 h3 h5).mpr h4, h5⟩
  have hPr : ∀ n m, n < N → (cPr w n m ↔ mPr w n m) := by
    intro n m hn
    obtain ⟨p, m', hp, hm', e42, q42, e39, q39, e0, q0, e12, q12, -⟩ := iP_pr H hn
    unfold cPr mPr
    rw [q42, q0, e39, e12]
  unfold mWD cWD
  rw [eB, eG, eP]
  constructor
  · intro h
    refine (h (fun n f L => (n < N ∧ f < 13) ∧ WDer (mBg w) (mLvK v N) (mPr w) (mGoI w) n f L) ?_ ?_ ?_).2
    · intro n f hn hb
      have hb := (bgn_eq H h0).mp hb
      obtain ⟨a1, a2, -⟩ := mBg_lt H h0 hn hb
      exact ⟨⟨a1, a2⟩, WDer.bg hb hn⟩
    · rintro n m d f a b hn hm hp ⟨⟨h1, h2⟩, h3⟩ hk
      have hk' := (hK n d f b).mp hk
      obtain ⟨k1, k2, k3, -⟩ := hk
      exact ⟨⟨k1, k3⟩, WDer.lv ((hPr n m k1).mp hp) h3 hk' hn hm⟩
    · rintro c f m g a hc hm ⟨⟨h1, h2⟩, h3⟩ hs
      have hs := (goI_eq H hS h1 h2).mp hs
      obtain ⟨a1, a2, -⟩ := mGoI_lt H h1 h2 hm hs
      exact ⟨⟨a1, a2⟩, WDer.go h3 hs hc hm⟩
  · intro h
    refine (h (fun n f L => (n < N ∧ f < 13) ∧ WDer (cBg w) (cLvK w N) (cPr w) (cGoI w) n f L) ?_ ?_ ?_).2
    · intro n f hn hb
      obtain ⟨a1, a2, -⟩ := mBg_lt H h0 hn hb
      exact ⟨⟨a1, a2⟩, WDer.bg ((bgn_eq H h0).mpr hb) hn⟩
    · rintro n m d f a b hn hm hp ⟨⟨h1, h2⟩, h3⟩ hk
      have hk' := (hK n d f b).mpr hk
      obtain ⟨k1, k2, k3, -⟩ := hk
      exact ⟨⟨k1, k3⟩, WDer.lv ((hPr n m k1).mpr hp) h3 hk' hn hm⟩
    · rintro c f m g a hc hm ⟨⟨h1, h2⟩, h3⟩ hs
      obtain ⟨a1, a2, -⟩ := mGoI_lt H h1 h2 hm hs
      exact ⟨⟨a1, a2⟩, WDer.go h3 ((goI_eq H hS h1 h2).mpr hs) hc hm⟩
/-- what holds has a length -/
theorem st_own {w : qq_w} {N Pn E n e t g : Nat} (H : iPrg w N Pn E) (hn : n < N) (ht : t < 64) (h : mStp w n e t g) : w.1 42 t = w.1 42 n := by
  have hN : N ≤ 64 := H.1.1
  rcases h with ⟨⟨-, -, k, hk, h3, h4⟩ | ⟨h9, h3⟩, -⟩
  · rw [(iP_P H).2.2.2.2.2] at hk
    obtain ⟨a, b, ha, hb, e1, e2, e3, e4, e0, -⟩ := H.2.2.2.1 k hk
    have z1 := nI_inj (by omega) (by omega) (h4.symm.trans e4)
    have z2 := nI_inj (by omega) (by omega) (h3.symm.trans e2)
    subst z1
    subst z2
    rw [(iP_tell H hb).1, (iP_tell H ha).1, e0]
  · rw [(iP_tell H hn).2.1] at h9
    obtain ⟨q, hq, e0, p', r, m, hp', hr, hm, e5, v6, e7, r1, r0, -⟩ := iP_call H hn h9
    have t7 := (iP_tell H hn).2.2.2.2.2.2.2.1 h9
    have := nI_inj (by omega) (by omega) (h3.symm.trans (t7.trans e7))
    subst this
    rw [(iP_tell H hr).1, (iP_tell H hn).1, r0, e0]
theorem th_own {w : qq_w} {N Pn E c e l g h r g' : Nat} (H : iPrg w N Pn E) (hc : c < N) (hr : r < 64) (hs : mThr w c e l g h r g') : w.1 42 r = w.1 42 c ∧ w.1 49 r = nI c ∧ w.1 43 r = 10 := by
  have hN : N ≤ 64 := H.1.1
  obtain ⟨h9, -, h3, -⟩ := hs
  rw [(iP_tell H hc).2.1] at h9
  obtain ⟨q, hq, e0, p', r', m, hp', hr', hm, e5, v6, e7, r1, r0, r9, -⟩ := iP_call H hc h9
  have t7 := (iP_tell H hc).2.2.2.2.2.2.2.1 h9
  have := nI_inj (by omega) (by omega) (h3.symm.trans (t7.trans e7))
  subst this
  exact ⟨by rw [(iP_tell H hr').1, (iP_tell H hc).1, r0, e0], by rw [(iP_tell H hr').2.2.2.2.2.2.2.2.2 r1, r9], by rw [(iP_tell H hr').2.1, r1]⟩
theorem clo_len {w : qq_w} {N Pn E t n d e : Nat} (H : iPrg w N Pn E) (hm : mBeg w N Pn t t) (hL : mLenN w N) (h : PClo w n d e) : (∃ L, mLD w n d e L) ∧ ∃ a m, m < N ∧ mPr w n m ∧ mWD w N m d a := by
  have hN : N ≤ 64 := H.1.1
  have known : ∀ n d e L, mLD w n d e L → ∃ b, mLvK w N n d e b := by
    intro n d e L hd
    obtain ⟨a1, a2, a3, -⟩ := mLD_lt H hd
    rcases hL.1 n d e a1 a2 a3 with ⟨b, e1, e2, -⟩ | ⟨-, e2⟩
    · exact ⟨b, a1, a2, a3, e1, e2⟩
    · exact absurd hd (e2 L)
  have ent : ∀ n d, n < N → w.1 43 n = 0 → PClo w n d d → mLD w n d d 0 := by
    intro n d hn h0 hc
    obtain ⟨p, m, hp, hm', e42, q42, e39, q39, e0, q0, e12, q12, k43, k42, hpr, hpr2, -, hk⟩ := iP_pr H hn
    have := hk h0
    subst this
    exact LDer.ent ((mEnt_clo H hm (by omega)).mpr ⟨(PClo_lt H hm.1 hc).1.2.1, ⟨p, hp, e39⟩, hc⟩) (by omega)
  refine (h (fun n d e => PClo w n d e ∧ (∃ L, mLD w n d e L) ∧ ∃ a m, m < N ∧ mPr w n m ∧ mWD w N m d a) ?_ ?_ ?_ ?_).2
  · intro n f hn hb
    obtain ⟨a1, a2, a3⟩ := mBg_lt H hm.1 hn hb
    have hc := PClo.bg hn hb
    obtain ⟨p, m, hp, hm', e42, q42, e39, q39, e0, q0, e12, q12, k43, k42, hpr, hpr2, -, hk⟩ := iP_pr H a1
    have := hk a3
    subst this
    exact ⟨hc, ⟨0, ent _ _ a1 a3 hc⟩, 0, m, a1, hpr, WDer.bg hb hn⟩
  · rintro n d e t g hn ht ⟨hc, ⟨L, h1⟩, a, m, hmN, hp, hw⟩ hs
    obtain ⟨a1, -⟩ := mLD_lt H h1
    refine ⟨PClo.stp hn ht hc hs, ⟨_, LDer.stp h1 hs hn ht⟩, a, m, hmN, ?_, hw⟩
    unfold mPr at hp ⊢
    rw [st_own H a1 ht hs]
    exact hp
  · rintro c d e m g hcN hmN ⟨hc, ⟨L, h1⟩, a, m0, hm0, hp, hw⟩ hs
    obtain ⟨a1, a2, a3, -⟩ := mLD_lt H h1
    obtain ⟨b1, b2, b3⟩ := mGoI_lt H a1 a3 hmN hs
    have hc2 := PClo.goI hcN hmN hc hs
    obtain ⟨b, hk⟩ := known _ _ _ _ h1
    have hw2 := WDer.go (WDer.lv hp hw hk hcN (by omega)) hs hcN hmN
    obtain ⟨p, m', hp', hm', e42, q42, e39, q39, e0, q0, e12, q12, k43, k42, hpr, hpr2, -, hk2⟩ := iP_pr H b1
    have := hk2 b3
    subst this
    exact ⟨hc2, ⟨0, ent _ _ b1 b3 hc2⟩, _, m', b1, hpr, hw2⟩
  · rintro c d e l g h r g' hcN hl hr ⟨hc, ⟨L, h1⟩, a, m, hmN, hp, hw⟩ hs ⟨hc2, ⟨L2, h2⟩, -⟩
    obtain ⟨a1, -⟩ := mLD_lt H h1
    refine ⟨PClo.thr hcN hl hr hc hs hc2, ⟨_, LDer.thr h1 hs h2 hcN hl hr⟩, a, m, hmN, ?_, hw⟩
    unfold mPr at hp ⊢
    rw [(th_own H a1 hr hs).1]
    exact hp
theorem hold_len {w : qq_w} {N Pn E t n d e : Nat} (H : iPrg w N Pn E) (hm : mBeg w N Pn t t) (hL : mLenN w N) (h : PClo w n d e) : ∃ L, mWD w N n e L := by
  have hN : N ≤ 64 := H.1.1
  obtain ⟨⟨L, h1⟩, a, m, hmN, hp, hw⟩ := clo_len H hm hL h
  obtain ⟨a1, a2, a3, -⟩ := mLD_lt H h1
  rcases hL.1 n d e a1 a2 a3 with ⟨b, e1, e2, -⟩ | ⟨-, e2⟩
  · exact ⟨_, WDer.lv hp hw ⟨a1, a2, a3, e1, e2⟩ (by omega) (by omega)⟩
  · exact absurd h1 (e2 L)
