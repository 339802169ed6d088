theorem lo_report (a b : Int32) : lwI Inv T_X7_report T_X8_report [.int a, .int b] := by
  intro w h
  obtain ⟨N, Pn, E, H, hF, hT, hS⟩ := id h
  obtain ⟨hN, hP, hE, e10, e88, e9, e82, e11, e820, -⟩ := H.1
  have eN := (iP_P H).2.2.1
  have eN8 := (iP_P H).2.2.2.1
  have v10 : vp_in (w.1 1 10) 65 := i_in 65 e10 (by omega) (by decide)
  have v88 : vp_in (w.1 8 8) 65 := i_in 65 e88 (by omega) (by decide)
  rcases arg_k (a := b) 1 (by omega) with ⟨j, hj, eb, m1, m2, m3⟩ | ⟨m1, m3⟩ | ⟨m1, m2, m3⟩
  · rcases sol_c hS with ⟨z1, z2⟩ | ⟨z1, z2, z3, z4⟩ | ⟨t, z1, z2, z3, z4, q1, q2, q5, q6⟩
    · ((conv => whnf); (repeat ((first | refine br_t (by decide) ?_ | refine br_f (by decide) ?_ | refine br_nt (by decide) ?_ | refine br_nf (by decide) ?_ | refine br_t (by assumption) ?_ | refine br_f (by assumption) ?_ | refine br_nt (by assumption) ?_ | refine br_nf (by assumption) ?_ | refine ⟨_, rfl, ?_⟩ | refine ⟨by assumption, ?_⟩); (conv => whnf))); exact ⟨rfl, h⟩)
    · ((conv => whnf); (repeat ((first | refine br_t (by decide) ?_ | refine br_f (by decide) ?_ | refine br_nt (by decide) ?_ | refine br_nf (by decide) ?_ | refine br_t (by assumption) ?_ | refine br_f (by assumption) ?_ | refine br_nt (by assumption) ?_ | refine br_nf (by assumption) ?_ | refine ⟨_, rfl, ?_⟩ | refine ⟨by assumption, ?_⟩); (conv => whnf))); exact ⟨rfl, h⟩)
    · obtain ⟨B, hB1, hB2⟩ := rp_ex H q1 q2
      rcases (show j = 0 ∨ j = 1 by omega) with rfl | rfl
      · subst eb
        conv => whnf
        (repeat ((first | refine br_t (by decide) ?_ | refine br_f (by decide) ?_ | refine br_nt (by decide) ?_ | refine br_nf (by decide) ?_ | refine br_t (by assumption) ?_ | refine br_f (by assumption) ?_ | refine br_nt (by assumption) ?_ | refine br_nf (by assumption) ?_ | refine ⟨_, rfl, ?_⟩ | refine ⟨by assumption, ?_⟩); (conv => whnf)))
        refine ⟨rfl, rfl, a, nI 0, ⟨rfl, rfl, rfl, rfl, rfl, trivial⟩, v10, fun n hn => iP_cRk H (by rw [eN] at hn; exact hn), B, fun n hn => hB1 n (by rw [eN] at hn; exact hn), fun n x hn hx hr => ?_, fun hr => ?_⟩
        · rw [eN] at hn
          conv => whnf
          (repeat ((first | refine br_t (by decide) ?_ | refine br_f (by decide) ?_ | refine br_nt (by decide) ?_ | refine br_nf (by decide) ?_ | refine br_t (by assumption) ?_ | refine br_f (by assumption) ?_ | refine br_nt (by assumption) ?_ | refine br_nf (by assumption) ?_ | refine ⟨_, rfl, ?_⟩ | refine ⟨by assumption, ?_⟩); (conv => whnf)))
          refine ⟨⟨v88, fun n hn => (iP_mRo H (by rw [eN8] at hn; exact hn)).2⟩, B, fun n hn => hB2 n (by rw [eN8] at hn; exact hn), fun n' x' hn' hx1' hx' hr' => ?_, fun hr' => ?_⟩
          · rw [eN8] at hn'
            obtain ⟨rfl, rfl⟩ := rp_uq (by omega) hx (by omega) hx' hr hr'
            have y1 : ¬ nI (13 * n + x) = -5 := i_ng (by omega) (-5) (by decide)
            conv => whnf
            (repeat ((first | refine br_t (by decide) ?_ | refine br_f (by decide) ?_ | refine br_nt (by decide) ?_ | refine br_nf (by decide) ?_ | refine br_t (by assumption) ?_ | refine br_f (by assumption) ?_ | refine br_nt (by assumption) ?_ | refine br_nf (by assumption) ?_ | refine ⟨_, rfl, ?_⟩ | refine ⟨by assumption, ?_⟩); (conv => whnf)))
            refine ⟨by decide, ?_⟩
            conv => whnf
            refine ⟨?_, Inv_46 h _⟩
            show some (Value.int (nI (13 * n + x) / 13)) = some (Value.int (if nI 0 = 0 then nI n else nI x))
            rw [if_pos nI_0]
            rw [r_div rfl (by omega), show (13 * n + x) / 13 = n by omega]
          · refine absurd hr (hr' n x (by rw [eN8]; exact hn) ?_ hx)
            rcases Nat.eq_zero_or_pos x with z | z
            · subst z
              have := hr.1
              rw [(hB2 n hn).1] at this
              cases this
            · exact z
        · conv => whnf
          (repeat ((first | refine br_t (by decide) ?_ | refine br_f (by decide) ?_ | refine br_nt (by decide) ?_ | refine br_nf (by decide) ?_ | refine br_t (by assumption) ?_ | refine br_f (by assumption) ?_ | refine br_nt (by assumption) ?_ | refine br_nf (by assumption) ?_ | refine ⟨_, rfl, ?_⟩ | refine ⟨by assumption, ?_⟩); (conv => whnf)))
          refine ⟨⟨v88, fun n hn => (iP_mRo H (by rw [eN8] at hn; exact hn)).2⟩, B, fun n hn => hB2 n (by rw [eN8] at hn; exact hn), fun n' x' hn' hx1' hx' hr' => ?_, fun hr' => ?_⟩
          · exact absurd hr' (hr n' x' (by rw [eN]; rw [eN8] at hn'; exact hn') hx')
          · conv => whnf
            (repeat ((first | refine br_t (by decide) ?_ | refine br_f (by decide) ?_ | refine br_nt (by decide) ?_ | refine br_nf (by decide) ?_ | refine br_t (by assumption) ?_ | refine br_f (by assumption) ?_ | refine br_nt (by assumption) ?_ | refine br_nf (by assumption) ?_ | refine ⟨_, rfl, ?_⟩ | refine ⟨by assumption, ?_⟩); (conv => whnf)))
            exact ⟨rfl, Inv_46 h _⟩
      · subst eb
        conv => whnf
        (repeat ((first | refine br_t (by decide) ?_ | refine br_f (by decide) ?_ | refine br_nt (by decide) ?_ | refine br_nf (by decide) ?_ | refine br_t (by assumption) ?_ | refine br_f (by assumption) ?_ | refine br_nt (by assumption) ?_ | refine br_nf (by assumption) ?_ | refine ⟨_, rfl, ?_⟩ | refine ⟨by assumption, ?_⟩); (conv => whnf)))
        refine ⟨rfl, rfl, a, nI 1, ⟨rfl, rfl, rfl, rfl, rfl, trivial⟩, v10, fun n hn => iP_cRk H (by rw [eN] at hn; exact hn), B, fun n hn => hB1 n (by rw [eN] at hn; exact hn), fun n x hn hx hr => ?_, fun hr => ?_⟩
        · rw [eN] at hn
          conv => whnf
          (repeat ((first | refine br_t (by decide) ?_ | refine br_f (by decide) ?_ | refine br_nt (by decide) ?_ | refine br_nf (by decide) ?_ | refine br_t (by assumption) ?_ | refine br_f (by assumption) ?_ | refine br_nt (by assumption) ?_ | refine br_nf (by assumption) ?_ | refine ⟨_, rfl, ?_⟩ | refine ⟨by assumption, ?_⟩); (conv => whnf)))
          refine ⟨⟨v88, fun n hn => (iP_mRo H (by rw [eN8] at hn; exact hn)).2⟩, B, fun n hn => hB2 n (by rw [eN8] at hn; exact hn), fun n' x' hn' hx1' hx' hr' => ?_, fun hr' => ?_⟩
          · rw [eN8] at hn'
            obtain ⟨rfl, rfl⟩ := rp_uq (by omega) hx (by omega) hx' hr hr'
            have y1 : ¬ nI (13 * n + x) = -5 := i_ng (by omega) (-5) (by decide)
            conv => whnf
            (repeat ((first | refine br_t (by decide) ?_ | refine br_f (by decide) ?_ | refine br_nt (by decide) ?_ | refine br_nf (by decide) ?_ | refine br_t (by assumption) ?_ | refine br_f (by assumption) ?_ | refine br_nt (by assumption) ?_ | refine br_nf (by assumption) ?_ | refine ⟨_, rfl, ?_⟩ | refine ⟨by assumption, ?_⟩); (conv => whnf)))
            refine ⟨by decide, ?_⟩
            conv => whnf
            refine ⟨?_, Inv_46 h _⟩
            show some (Value.int (nI (13 * n + x) - nI (13 * n + x) / 13 * 13)) = some (Value.int (if nI 1 = 0 then nI n else nI x))
            rw [if_neg (show ¬ nI 1 = 0 by decide)]
            rw [r_rem rfl (by omega), show (13 * n + x) % 13 = x by omega]
          · refine absurd hr (hr' n x (by rw [eN8]; exact hn) ?_ hx)
            rcases Nat.eq_zero_or_pos x with z | z
            · subst z
              have := hr.1
              rw [(hB2 n hn).1] at this
              cases this
            · exact z
        · conv => whnf
          (repeat ((first | refine br_t (by decide) ?_ | refine br_f (by decide) ?_ | refine br_nt (by decide) ?_ | refine br_nf (by decide) ?_ | refine br_t (by assumption) ?_ | refine br_f (by assumption) ?_ | refine br_nt (by assumption) ?_ | refine br_nf (by assumption) ?_ | refine ⟨_, rfl, ?_⟩ | refine ⟨by assumption, ?_⟩); (conv => whnf)))
          refine ⟨⟨v88, fun n hn => (iP_mRo H (by rw [eN8] at hn; exact hn)).2⟩, B, fun n hn => hB2 n (by rw [eN8] at hn; exact hn), fun n' x' hn' hx1' hx' hr' => ?_, fun hr' => ?_⟩
          · exact absurd hr' (hr n' x' (by rw [eN]; rw [eN8] at hn'; exact hn') hx')
          · conv => whnf
            (repeat ((first | refine br_t (by decide) ?_ | refine br_f (by decide) ?_ | refine br_nt (by decide) ?_ | refine br_nf (by decide) ?_ | refine br_t (by assumption) ?_ | refine br_f (by assumption) ?_ | refine br_nt (by assumption) ?_ | refine br_nf (by assumption) ?_ | refine ⟨_, rfl, ?_⟩ | refine ⟨by assumption, ?_⟩); (conv => whnf)))
            exact ⟨rfl, Inv_46 h _⟩
  · ((conv => whnf); (repeat ((first | refine br_t (by decide) ?_ | refine br_f (by decide) ?_ | refine br_nt (by decide) ?_ | refine br_nf (by decide) ?_ | refine br_t (by assumption) ?_ | refine br_f (by assumption) ?_ | refine br_nt (by assumption) ?_ | refine br_nf (by assumption) ?_ | refine ⟨_, rfl, ?_⟩ | refine ⟨by assumption, ?_⟩); (conv => whnf))); exact ⟨rfl, h⟩)
  · ((conv => whnf); (repeat ((first | refine br_t (by decide) ?_ | refine br_f (by decide) ?_ | refine br_nt (by decide) ?_ | refine br_nf (by decide) ?_ | refine br_t (by assumption) ?_ | refine br_f (by assumption) ?_ | refine br_nt (by assumption) ?_ | refine br_nf (by assumption) ?_ | refine ⟨_, rfl, ?_⟩ | refine ⟨by assumption, ?_⟩); (conv => whnf))); exact ⟨rfl, h⟩)
/-! digest -/
theorem f31_cg {f g : Nat → Int32} {h : Int64} : ∀ n, (∀ i, i < n → f i = g i) → fold31 f n h = fold31 g n h
  | 0, _ => rfl
  | n + 1, e => by
    show 31 * fold31 f n h + _ = 31 * fold31 g n h + _
    rw [f31_cg n (fun i hi => e i (by omega)), e n (by omega)]
theorem dgN_cg {c c' a a' : Nat → Nat → Int32} {r r' : Nat → Nat} {h : Int64} : ∀ n, (∀ i, i < n → (∀ j, j < 10 → c i j = c' i j) ∧ r i = r' i ∧ ∀ k, k < r i → a i k = a' i k) → dgN c a r n h = dgN c' a' r' n h
  | 0, _ => rfl
  | n + 1, e => by
    obtain ⟨e1, e2, e3⟩ := e n (by omega)
    show fold31 (a n) (r n) (fold31 (c n) 10 (dgN c a r n h)) = fold31 (a' n) (r' n) (fold31 (c' n) 10 (dgN c' a' r' n h))
    rw [dgN_cg n (fun i hi => e i (by omega)), f31_cg 10 e1, f31_cg (r n) e3, e2]
theorem dgE_cg {f g f' g' : Nat → Int32} {h : Int64} : ∀ n, (∀ i, i < n → f i = f' i ∧ g i = g' i) → dgE f g n h = dgE f' g' n h
  | 0, _ => rfl
  | n + 1, e => by
    obtain ⟨e1, e2⟩ := e n (by omega)
    show 31 * (31 * dgE f g n h + (f n).toInt64) + (g n).toInt64 = 31 * (31 * dgE f' g' n h + (f' n).toInt64) + (g' n).toInt64
    rw [dgE_cg n (fun i hi => e i (by omega)), e1, e2]
theorem dgP_cg {f g k f' g' k' : Nat → Int32} {h : Int64} : ∀ n, (∀ i, i < n → f i = f' i ∧ g i = g' i ∧ k i = k' i) → dgP f g k n h = dgP f' g' k' n h
  | 0, _ => rfl
  | n + 1, e => by
    obtain ⟨e1, e2, e3⟩ := e n (by omega)
    show 31 * (31 * (31 * dgP f g k n h + (f n).toInt64) + (g n).toInt64) + (k n).toInt64 = 31 * (31 * (31 * dgP f' g' k' n h + (f' n).toInt64) + (g' n).toInt64) + (k' n).toInt64
    rw [dgP_cg n (fun i hi => e i (by omega)), e1, e2, e3]
theorem dg_eq {w : qq_w} {N Pn E : Nat} (H : iPrg w N Pn E) : mDgA w = 31 * cDg w 17 + (w.1 2 2).toInt64 := by
  have hN : N ≤ 64 := H.1.1
  obtain ⟨p1, p2, p3, p4, p5, p6⟩ := iP_P H
  unfold mDgA cDg
  rw [p1, p2, p3, p4, p5, p6, (iP_cli H).1]
  have e1 : dgN (mTell w) (fun n k => w.1 51 (4 * n + k)) (fun n => qn (w.1 50 n)) N 17 = dgN (cX w) (fun n k => w.1 14 (4 * n + k)) (cRm w) N 17 := by
    refine dgN_cg N (fun n hn => ⟨(H.2.1 n hn).1, ?_⟩)
    show qn (w.1 50 n) = cRm w n ∧ ∀ k, k < qn (w.1 50 n) → w.1 51 (4 * n + k) = w.1 14 (4 * n + k)
    have t8 := (iP_tell H hn).2.2.2.2.2.2.2.2.1
    unfold cRm
    rw [t8]
    by_cases h9 : cX w n 1 = 9
    · obtain ⟨q, hq, f0, p', r, m, hp', hr, hm, e5, v6, e7, r1, r0, r9, e8, ha⟩ := iP_call H hn h9
      rw [if_pos h9, e8, qn_nI (by omega)]
      exact ⟨rfl, fun k hk => (ha k (by omega)).2⟩
    · obtain ⟨p, k, hp, hk, -, ek, -, -, -, -, ⟨-, h5⟩, -⟩ := iP_kind H hn
      have hk9 : ¬ k = 9 := fun z => h9 (by rw [ek, z]; rfl)
      rw [if_neg h9, (h5 hk9).2.2.2, qn_m5]
      exact ⟨rfl, fun k hk => by omega⟩
  have e2 : ∀ h, dgE (w.1 52) (w.1 53) E h = dgE (w.1 15) (w.1 16) E h := fun h => dgE_cg E (fun k hk => by
    obtain ⟨a, b, ha, hb, e1, e2, e3, e4, -⟩ := H.2.2.2.1 k hk
    exact ⟨by rw [e1, e2], by rw [e3, e4]⟩)
  have e3 : ∀ h, dgP (w.1 37) (w.1 38) (w.1 41) Pn h = dgP (w.1 9) (w.1 10) (w.1 11) Pn h := fun h => dgP_cg Pn (fun p hp => by
    obtain ⟨a, b, l, -, -, -, hl, g9, g37, g10, g38, g12, g39, g40, -, -, -, -, g41, -⟩ := H.2.2.1 p hp
    exact ⟨by rw [g9, g37], by rw [g10, g38], g41⟩)
  rw [e1, e2, e3]
theorem lo_digest : lwJ Inv T_X7_digest T_X8_digest [] := by
  intro w h
  obtain ⟨N, Pn, E, H, hF, hT, hS⟩ := id h
  obtain ⟨hN, hP, hE, e10, e88, e9, e82, e11, e820, -⟩ := H.1
  have eN := (iP_P H).2.2.1
  have eN8 := (iP_P H).2.2.2.1
  have v10 : vp_in (w.1 1 10) 65 := i_in 65 e10 (by omega) (by decide)
  have v88 : vp_in (w.1 8 8) 65 := i_in 65 e88 (by omega) (by decide)
  have pc : vp_in (w.1 1 10) 65 ∧ vp_in (w.1 1 11) 121 ∧ vp_in (w.1 1 9) 9 ∧ ∀ c, c < qn (w.1 1 10) → cX w c 1 = 9 → vp_in (cX w c 8) 5 := by
    refine ⟨v10, i_in 121 e11 (by omega) (by decide), i_in 9 e9 (by omega) (by decide), fun c hc h9 => ?_⟩
    rw [eN] at hc
    exact ((iP_mFN H hc).1.2 h9).2.1
  have pm : vp_in (w.1 8 8) 65 ∧ (∀ n, n < qn (w.1 8 8) → mRoom w n) ∧ vp_in (w.1 8 20) 121 ∧ vp_in (w.1 8 2) 9 := ⟨v88, fun n hn => (iP_mRo H (by rw [eN8] at hn; exact hn)).2, i_in 121 e820 (by omega) (by decide), i_in 9 e82 (by omega) (by decide)⟩
  rcases sol_c hS with ⟨z1, z2⟩ | ⟨z1, z2, z3, z4⟩ | ⟨t, z1, z2, z3, z4, q1, q2, q5, q6⟩
  · have ed : mDg w = 31 * cDg w 17 + (w.1 2 2).toInt64 := by
      unfold mDg
      rw [if_neg (fun z => z.1 z2), dg_eq H]
    conv => whnf
    (repeat ((first | refine br_t (by decide) ?_ | refine br_f (by decide) ?_ | refine br_nt (by decide) ?_ | refine br_nf (by decide) ?_ | refine br_t (by assumption) ?_ | refine br_f (by assumption) ?_ | refine br_nt (by assumption) ?_ | refine br_nf (by assumption) ?_ | refine ⟨_, rfl, ?_⟩ | refine ⟨by assumption, ?_⟩); (conv => whnf)))
    exact ⟨by rw [ed], h⟩
  · have ed : mDg w = 31 * cDg w 17 + (w.1 2 2).toInt64 := by
      unfold mDg
      rw [if_neg (fun z => z4 z.2), dg_eq H]
    conv => whnf
    (repeat ((first | refine br_t (by decide) ?_ | refine br_f (by decide) ?_ | refine br_nt (by decide) ?_ | refine br_nf (by decide) ?_ | refine br_t (by assumption) ?_ | refine br_f (by assumption) ?_ | refine br_nt (by assumption) ?_ | refine br_nf (by assumption) ?_ | refine ⟨_, rfl, ?_⟩ | refine ⟨by assumption, ?_⟩); (conv => whnf)))
    exact ⟨by rw [ed], h⟩
  · have ed : mDg w = fold31 (fun n => qq_or (w.1 20) (13 * n) 13) (qn (w.1 1 10)) (31 * cDg w 17 + (w.1 2 2).toInt64) := by
      unfold mDg
      rw [if_pos ⟨z2, z4⟩, dg_eq H, eN, eN8]
      exact f31_cg N (fun n hn => hold_eq q1 q2 (by omega))
    conv => whnf
    (repeat ((first | refine br_t (by decide) ?_ | refine br_f (by decide) ?_ | refine br_nt (by decide) ?_ | refine br_nf (by decide) ?_ | refine br_t (by assumption) ?_ | refine br_f (by assumption) ?_ | refine br_nt (by assumption) ?_ | refine br_nf (by assumption) ?_ | refine ⟨_, rfl, ?_⟩ | refine ⟨by assumption, ?_⟩); (conv => whnf)))
    refine ⟨rfl, rfl, 31 * cDg w 17 + (w.1 2 2).toInt64, ⟨rfl, rfl, rfl, trivial⟩, v10, ?_⟩
    conv => whnf
    (repeat ((first | refine br_t (by decide) ?_ | refine br_f (by decide) ?_ | refine br_nt (by decide) ?_ | refine br_nf (by decide) ?_ | refine br_t (by assumption) ?_ | refine br_f (by assumption) ?_ | refine br_nt (by assumption) ?_ | refine br_nf (by assumption) ?_ | refine ⟨_, rfl, ?_⟩ | refine ⟨by assumption, ?_⟩); (conv => whnf)))
    exact ⟨by rw [ed], h⟩
