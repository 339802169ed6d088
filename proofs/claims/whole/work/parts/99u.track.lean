theorem Dn0_c {w : qq_w} {N Pn E t : Nat} (h : Dn0 w N Pn E t) : ¬ w.1 8 27 = 0 ∧ w.1 8 33 = w.1 8 32 ∧ w.1 8 8 = nI N ∧ qn (w.1 1 10) = N ∧ qn (w.1 1 9) = Pn ∧ qn (w.1 8 8) = N := by
  obtain ⟨H, hF, hfs, q1, q2, -⟩ := h
  obtain ⟨d1, d2, d3, d4, d5⟩ := meg_t q2
  obtain ⟨p1, p2, p3, p4, -⟩ := iP_P H
  exact ⟨by rw [q2.2.1]; decide, by rw [d3, d4], H.1.2.2.2.2.1, p3, p1, p4⟩
theorem Dn0_h {w : qq_w} {N Pn E t n f d : Nat} (h : Dn0 w N Pn E t) (hcl : PClo w n d f) : mHolds w n f := by
  obtain ⟨H, hF, hfs, q1, q2, -⟩ := h
  obtain ⟨⟨a1, a2, a3⟩, -⟩ := PClo_lt H q1.1 hcl
  have hN : N ≤ 64 := H.1.1
  exact ⟨d, a2, (done_row q2 (by omega) a2).mpr hcl⟩
theorem Dn0_mp {w : qq_w} {N Pn E t : Nat} (h : Dn0 w N Pn E t) : mPW w (qn (w.1 8 8)) ∧ mOwn w (qn (w.1 8 8)) ∧ (∃ l, l < qn (w.1 8 8) ∧ w.1 39 0 = nI l ∧ w.1 43 l = 0) ∧ mEnN w (qn (w.1 8 8)) ∧ vp_in (w.1 8 2) 9 := by
  obtain ⟨H, hF, hfs, q1, q2, q3, q4, q5⟩ := h
  have hP8 : Pn ≤ 8 := H.1.2.1
  rw [(iP_P H).2.2.2.1]
  refine ⟨iP_mPW H, iP_mOwn H, ?_, iP_enN H, i_in 9 H.1.2.2.2.2.2.2.1 (by omega) (by decide)⟩
  obtain ⟨a, b, l, -, -, -, hl, g9, g37, g10, g38, g12, g39, g40, k0, k1, -⟩ := H.2.2.1 0 q1.1
  exact ⟨l, by omega, g39, by rw [(iP_tell H (n := l) (by omega)).2.1, k1]⟩
theorem Dn0_len {w : qq_w} {N Pn E t n d f : Nat} (h : Dn0 w N Pn E t) (hc : cLen w N Pn) (hm : mLen w N) (hcl : PClo w n d f) : w.2 60 (13 * n + f) = w.2 24 (13 * n + f) := by
  have hd : Dn0 w N Pn E t := h
  obtain ⟨H, hF, hfs, q1, q2, -⟩ := h
  have hN : N ≤ 64 := H.1.1
  obtain ⟨⟨hn, hd', hf⟩, -⟩ := PClo_lt H q2.1 hcl
  obtain ⟨L0, hL0⟩ := hold_len H q2 (mLen_N H hm) hcl
  have hlv : ∀ n d f b, n < N → d < 13 → f < 13 → b ≤ 1000000000000 → (w.2 33 (169 * n + 13 * d + f) = lN b ↔ w.2 59 (169 * n + 13 * d + f) = lN b) := by
    intro n d f b hn hd hf hb
    rw [lMin_b (by omega) (by omega) hb (lMin_iff (hc.1 n d f hn hd hf) (fun L => ld_eq H q1 q2)), lMin_b (by omega) (by omega) hb (hm.1 n d f (by omega) hd hf)]
  rcases hm.2 n f (by omega) hf with ⟨L, e1, e2, e3, e4⟩ | ⟨-, e2⟩
  · rw [e1]
    exact ((lMin_b (by omega) (by omega) e2 (lMin_iff (hc.2.1 n f hn hf) (fun L => wd_eq (v := w) H q2.1 q1.2.2.1 rfl hlv))).mpr ⟨e3, e4⟩).symm
  · exact absurd hL0 (e2 L0)
theorem lc_c {L : Nat} (hL : L ≤ 1000000000000) : (L < 300 ∧ lg_cmp (lN L) 300 < 0 ∧ ¬ 0 ≤ lg_cmp (lN L) 300 ∧ lg_cmp (lN L + 1) 300 ≤ 0 ∧ ¬ 0 < lg_cmp (lN L + 1) 300) ∨ (¬ L < 300 ∧ ¬ lg_cmp (lN L) 300 < 0 ∧ 0 ≤ lg_cmp (lN L) 300 ∧ ¬ lg_cmp (lN L + 1) 300 ≤ 0 ∧ 0 < lg_cmp (lN L + 1) 300) := by
  have e : lN L + 1 = lN (L + 1) := lN_1 L
  have h1 : lN L < 300 ↔ L < 300 := lL_lt (b := 300) (by omega) (by omega)
  have h2 : (300 : Int64) < lN (L + 1) ↔ 300 < L + 1 := lL_lt (a := 300) (by omega) (by omega)
  rw [lcmp_lt, lcmp_ge, lcmp_le, lcmp_gt, e, h1, h2]
  by_cases z : L < 300
  · exact Or.inl ⟨z, z, fun y => y z, by omega, by omega⟩
  · exact Or.inr ⟨z, z, z, by omega, by omega⟩
set_option maxHeartbeats 32000000 in
set_option maxRecDepth 100000 in
theorem lo_track (a b : Int32) : lwI Inv T_X7_track T_X8_track [.int a, .int b] := by
  intro w h
  obtain ⟨N, Pn, E, H, hF, hT, hS⟩ := id h
  obtain ⟨hN, hP, hE, e10, e88, -⟩ := H.1
  rcases arg_c (a := a) (by omega) e10 e88 with ⟨n, hn, ea, k1, k2, k3⟩ | ⟨k1, k3⟩ | ⟨k1, k2, k3⟩
  · have hv : vp_in a 64 := i_in 64 ea (by omega) (by decide)
    have k3n : 0 ≤ a ∧ a ≤ nI N - 1 := by
      rw [← e88]
      exact k3
    rcases arg_k (a := b) 12 (by omega) with ⟨j, hj, eb, m1, m2, m3⟩ | ⟨m1, m3⟩ | ⟨m1, m2, m3⟩
    · have hv2 : vp_in b 13 := i_in 13 eb (by omega) (by decide)
      have hv5 : vp_in a 64 ∧ vp_in b 13 := ⟨hv, hv2⟩
      have qa : qn a = n := i_c ea (by omega)
      have qb : qn b = j := i_c eb (by omega)
      have c1 := nI_ml ea eb (nI_lit 13)
      have v1 : vp_in (a * 13 + b) 832 := i_in 832 c1 (by omega) (by decide)
      have c2 := nI_mr ea eb (nI_lit 13)
      have v2 : vp_in (13 * a + b) 832 := i_in 832 c2 (by omega) (by decide)
      rcases sol_d H hF hT hS with ⟨z1, z2⟩ | ⟨z1, z2, z3, z4⟩ | ⟨t, z1, z2, z3, z4, D⟩
      · ((conv => whnf); (repeat ((first | refine br_t (by decide) ?_ | refine br_f (by decide) ?_ | refine br_nt (by decide) ?_ | refine br_nf (by decide) ?_ | refine ⟨_, rfl, ?_⟩ | refine br_t (by with_reducible assumption) ?_ | refine br_f (by with_reducible assumption) ?_ | refine br_nt (by with_reducible assumption) ?_ | refine br_nf (by with_reducible assumption) ?_ | refine ⟨by with_reducible assumption, ?_⟩ | refine ⟨Or.inl rfl, ?_⟩ | refine br_t (by assumption) ?_ | refine br_f (by assumption) ?_ | refine br_nt (by assumption) ?_ | refine br_nf (by assumption) ?_ | refine ⟨by assumption, ?_⟩); (conv => whnf))); exact ⟨rfl, h⟩)
      · ((conv => whnf); (repeat ((first | refine br_t (by decide) ?_ | refine br_f (by decide) ?_ | refine br_nt (by decide) ?_ | refine br_nf (by decide) ?_ | refine ⟨_, rfl, ?_⟩ | refine br_t (by with_reducible assumption) ?_ | refine br_f (by with_reducible assumption) ?_ | refine br_nt (by with_reducible assumption) ?_ | refine br_nf (by with_reducible assumption) ?_ | refine ⟨by with_reducible assumption, ?_⟩ | refine ⟨Or.inl rfl, ?_⟩ | refine br_t (by assumption) ?_ | refine br_f (by assumption) ?_ | refine br_nt (by assumption) ?_ | refine br_nf (by assumption) ?_ | refine ⟨by assumption, ?_⟩); (conv => whnf))); exact ⟨rfl, h⟩)
      · have hbit : (qq_or (w.1 20) (13 * qn a) 13 >>> (b &&& 31)) &&& 1 = 0 ↔ bt (qq_or (w.1 20) (13 * n) 13) j = false := by
          rw [qa, eb]
          exact b_has (by omega) _
        by_cases hcl : ∃ d, PClo w n d j
        · obtain ⟨d0, hcl0⟩ := hcl
          have hb1 : ¬ (qq_or (w.1 20) (13 * qn a) 13 >>> (b &&& 31)) &&& 1 = 0 := fun z => by
            have y := hbit.mp z
            rw [((Dn_h D (by omega)).1).mpr ⟨d0, hcl0⟩] at y
            cases y
          obtain ⟨-, -, -, -, -, xN, xP, -⟩ := Dn_c D
          clear hbit
          conv => whnf
          (repeat ((first | refine br_t (by decide) ?_ | refine br_f (by decide) ?_ | refine br_nt (by decide) ?_ | refine br_nf (by decide) ?_ | refine ⟨_, rfl, ?_⟩ | refine br_t (by with_reducible assumption) ?_ | refine br_f (by with_reducible assumption) ?_ | refine br_nt (by with_reducible assumption) ?_ | refine br_nf (by with_reducible assumption) ?_ | refine ⟨by with_reducible assumption, ?_⟩ | refine ⟨Or.inl rfl, ?_⟩ | refine br_t (by assumption) ?_ | refine br_f (by assumption) ?_ | refine br_nt (by assumption) ?_ | refine br_nf (by assumption) ?_ | refine ⟨by assumption, ?_⟩); (conv => whnf)))
          refine ⟨fun _ => by rw [xN, xP]; exact Dn_Fp D, fun h46 => ?_, fun h4 w1 hf => ?_⟩
          · have D1 := D
            have hcl1 := hcl0
            clear z1 z2 z3 z4 hb1 k3
            obtain ⟨-, -, -, -, -, xN1, xP1, -⟩ := Dn_c D1
            have hT1 : iTrk w := D1.2.2.1
            have E1 := Dn_0 D1
            have hc1 := E1.2.2.2.2.2.2.1 h46
            obtain ⟨L, hL, l24⟩ := Dn_lenC E1 hc1 hcl1
            have e24 : w.2 24 (a * 13 + b).toNatClampNeg = lN L := by
              rw [i_c c1 (by omega)]
              exact l24
            rcases lc_c hL with ⟨o0, o1, o2, o3, o4⟩ | ⟨o0, o1, o2, o3, o4⟩
            · have p1 : lg_cmp (w.2 24 (a * 13 + b).toNatClampNeg) 300 < 0 := by
                rw [e24]
                exact o1
              have p2 : ¬ 0 ≤ lg_cmp (w.2 24 (a * 13 + b).toNatClampNeg) 300 := by
                rw [e24]
                exact o2
              obtain ⟨l, dd, s', hbok, hbw, hout, hlen, hrun⟩ := trk_c E1 hc1 hcl1 l24 o0
              have hD : cD w = cBD w N Pn := by
                show cBD w (qn (w.1 1 10)) (qn (w.1 1 9)) = _
                rw [xN1, xP1]
              conv => whnf
              (repeat ((first | refine br_t (by decide) ?_ | refine br_f (by decide) ?_ | refine br_nt (by decide) ?_ | refine br_nf (by decide) ?_ | refine ⟨_, rfl, ?_⟩ | refine br_t (by with_reducible assumption) ?_ | refine br_f (by with_reducible assumption) ?_ | refine br_nt (by with_reducible assumption) ?_ | refine br_nf (by with_reducible assumption) ?_ | refine ⟨by with_reducible assumption, ?_⟩ | refine ⟨Or.inl rfl, ?_⟩ | refine br_t (by assumption) ?_ | refine br_f (by assumption) ?_ | refine br_nt (by assumption) ?_ | refine br_nf (by assumption) ?_ | refine ⟨by assumption, ?_⟩); (conv => whnf)))
              refine ⟨⟨by rw [xN1, xP1]; exact Dn_Tp E1 hc1, by rw [hD, xN1]; exact hbok, hv, by rw [qa, xN1]; exact hn, hv2, by rw [hD, qa, qb, hbw]; exact o0, by rw [hD, qa, qb]; exact hout, by rw [hD, qa, qb, hbw]; exact hlen, by rw [hD, qa, qb]; exact hrun⟩, fun w2 hl2 => ?_⟩
              have E2 := Dn0_laid E1 hl2
              obtain ⟨hfr2, e82', htf2⟩ := laid_fr hl2
              have hcl2 : PClo w2 n d0 j := by
                rw [PClo_sp (frT_sp hfr2)]
                exact hcl1
              have h462 : ¬ w2.1 4 6 = 0 := by
                rw [hl2.1 4 (by decide)]
                exact h46
              have l24v : w2.2 24 (13 * n + j) = lN L := by
                rw [hl2.2.1]
                exact l24
              have hcb2 : cBD w2 N Pn = cBD w N Pn := cBD_tf htf2 N Pn
              have hrun2 := hrun
              rw [← hcb2] at hrun2
              have hout2 := hout
              rw [← hcb2] at hout2
              clear hbok hbw hD
              obtain ⟨x2, x4, x88, -, -, xq⟩ := Dn0_c E2
              have x3 : 0 ≤ a ∧ a ≤ w2.1 8 8 - 1 := by
                rw [x88]
                exact k3n
              have hh : mHolds w2 (qn a) (qn b) := by
                rw [qa, qb]
                exact Dn0_h E2 hcl2
              conv => whnf
              (repeat ((first | refine br_t (by decide) ?_ | refine br_f (by decide) ?_ | refine br_nt (by decide) ?_ | refine br_nf (by decide) ?_ | refine ⟨_, rfl, ?_⟩ | refine br_t (by with_reducible assumption) ?_ | refine br_f (by with_reducible assumption) ?_ | refine br_nt (by with_reducible assumption) ?_ | refine br_nf (by with_reducible assumption) ?_ | refine ⟨by with_reducible assumption, ?_⟩ | refine ⟨Or.inl rfl, ?_⟩ | refine br_t (by assumption) ?_ | refine br_f (by assumption) ?_ | refine br_nt (by assumption) ?_ | refine br_nf (by assumption) ?_ | refine ⟨by assumption, ?_⟩); (conv => whnf)))
              refine ⟨fun _ => Dn0_mp E2, fun h8 => ?_, fun h8 w3 hm => ?_⟩
              · have l60' : w2.2 60 (13 * n + j) = lN L := by
                  rw [Dn0_len E2 (E2.2.2.2.2.2.2.1 h462) (E2.2.2.2.2.2.2.2 h8) hcl2]
                  exact l24v
                have l60 : w2.2 60 (13 * a + b).toNatClampNeg = lN L := by
                  rw [i_c c2 (by omega)]
                  exact l60'
                have g1 : lg_cmp (w2.2 60 (13 * a + b).toNatClampNeg + 1) 300 ≤ 0 := by
                  rw [l60]
                  exact o3
                have g2 : ¬ 0 < lg_cmp (w2.2 60 (13 * a + b).toNatClampNeg + 1) 300 := by
                  rw [l60]
                  exact o4
                obtain ⟨hT4, bwm, btr, bto⟩ := trk_m E2 (E2.2.2.2.2.2.2.1 h462) (E2.2.2.2.2.2.2.2 h8) hn (by omega) l60' o0
                have hw4 : mTk w2 (qq_ui (qq_ui w2 8 44 0) 8 45 0) := by
                  refine ⟨rfl, fun q hq => ?_, fun j h44 h45 => ?_⟩
                  · have z8 : q ≠ 8 := fun z => hq (by simp [z])
                    simp only [qq_ui, va_up, z8, if_false]
                  · show upd (upd (w2.1 8) 44 0) 45 0 j = _
                    rw [upd_at, upd_at, if_neg h45, if_neg h44]
                have xqu : qn (w2.1 8 8) = N := (Dn0_c E2).2.2.2.2.2
                have hmD : mD (qq_ui (qq_ui w2 8 44 0) 8 45 0) = mBD w2 N := by
                  rw [mD_tk hw4]
                  show mBD w2 (qn (w2.1 8 8)) = _
                  rw [xqu]
                have hbw : bW (mD (qq_ui (qq_ui w2 8 44 0) 8 45 0)) (qn a) (qn b) = L := by
                  rw [hmD, qa, qb]
                  exact bwm
                conv => whnf
                (repeat ((first | refine br_t (by decide) ?_ | refine br_f (by decide) ?_ | refine br_nt (by decide) ?_ | refine br_nf (by decide) ?_ | refine ⟨_, rfl, ?_⟩ | refine br_t (by with_reducible assumption) ?_ | refine br_f (by with_reducible assumption) ?_ | refine br_nt (by with_reducible assumption) ?_ | refine br_nf (by with_reducible assumption) ?_ | refine ⟨by with_reducible assumption, ?_⟩ | refine ⟨Or.inl rfl, ?_⟩ | refine br_t (by assumption) ?_ | refine br_f (by assumption) ?_ | refine br_nt (by assumption) ?_ | refine br_nf (by assumption) ?_ | refine ⟨by assumption, ?_⟩); (conv => whnf)))
                refine ⟨⟨?_, hv2, hv, ?_, ?_, Nat.le_refl _, 0, rfl, ?_⟩, fun l' hl' hr' => ?_⟩
                · show mTrk (qq_ui (qq_ui w2 8 44 0) 8 45 0) (qn (w2.1 8 8))
                  rw [xqu]
                  exact mTrk_tk hw4 hT4
                · show qn a < qn (w2.1 8 8)
                  rw [xqu, qa]
                  exact hn
                · exact Nat.lt_of_le_of_lt (Nat.le_of_eq hbw) o0
                · refine Nat.le_trans (Nat.le_of_eq (show 0 + bW (mD (qq_ui (qq_ui w2 8 44 0) 8 45 0)) (qn a) (qn b) + 1 = L + 1 by rw [hbw, Nat.zero_add])) (by omega)
                · have hll : l'.length = l.length := by
                    rw [hlen]
                    exact hl'.trans (by rw [show bW (mD (qq_ui (qq_ui w2 8 44 0) 8 45 0)) (qn a) (qn b) = L from hbw])
                  have hr2 : ∀ d0, bOut (mBD w2 N) n j d0 → ∃ s', bRun (mBD w2 N) l'.reverse (n, j, d0, []) s' := by
                    rw [← hmD, ← qa, ← qb]
                    exact hr'
                  obtain ⟨z1, z2⟩ := trk_end (w1 := w) (w2 := w2) (w3 := w2) (w4 := qq_ui (qq_ui w2 8 44 0) 8 45 0) (l := l) (l' := l') hl2 E2 (fun q hq => rfl) rfl (by rw [hlen]; omega) hrun2 hout2 btr bto hll hr2
                  conv => whnf
                  exact ⟨congrArg (fun x => some (Value.int x)) z1, z2⟩
              · obtain ⟨E3, h8'⟩ := Dn0_meas E2 hm
                obtain ⟨mp, m24, m46, m5, mT0⟩ := Dn_M hm
                have hcl3 : PClo w3 n d0 j := by
                  rw [mp]
                  exact hcl2
                have h463 : ¬ w3.1 4 6 = 0 := by
                  rw [m46]
                  exact h462
                have l243 : w3.2 24 (13 * n + j) = lN L := by
                  rw [m24]
                  exact l24v
                have mT : ∀ q, q ∈ [5, 25, 26, 27, 28] → w3.1 q = w2.1 q := fun q hq => by
                  by_cases z : q = 5
                  · rw [z, m5]
                  · exact mT0 q (by simp only [List.mem_cons, List.not_mem_nil, or_false] at hq ⊢; omega)
                have hcb : cBD w3 N Pn = cBD w2 N Pn := by
                  obtain ⟨⟨s1, s2⟩, f2, f3, f4, f5⟩ := hm
                  have z8 : ∀ q, q ∈ pgI → q ≠ 8 := by decide
                  exact cBD_cg ⟨fun q hq => s1 q (z8 q hq), fun j hj => s2 j (fun z => by subst z; revert hj; decide) (fun z => by subst z; revert hj; decide), f3 17 (by decide) (by decide)⟩ (s1 19 (by decide)) (f3 33 (by decide) (by decide)) (f3 24 (by decide) (by decide))
                have hrun3 := hrun2
                rw [← hcb] at hrun3
                have hout3 := hout2
                rw [← hcb] at hout3
                have l60' : w3.2 60 (13 * n + j) = lN L := by
                  rw [Dn0_len E3 (E3.2.2.2.2.2.2.1 h463) (E3.2.2.2.2.2.2.2 h8') hcl3]
                  exact l243
                have l60 : w3.2 60 (13 * a + b).toNatClampNeg = lN L := by
                  rw [i_c c2 (by omega)]
                  exact l60'
                have g1 : lg_cmp (w3.2 60 (13 * a + b).toNatClampNeg + 1) 300 ≤ 0 := by
                  rw [l60]
                  exact o3
                have g2 : ¬ 0 < lg_cmp (w3.2 60 (13 * a + b).toNatClampNeg + 1) 300 := by
                  rw [l60]
                  exact o4
                obtain ⟨hT4, bwm, btr, bto⟩ := trk_m E3 (E3.2.2.2.2.2.2.1 h463) (E3.2.2.2.2.2.2.2 h8') hn (by omega) l60' o0
                have hw4 : mTk w3 (qq_ui (qq_ui w3 8 44 0) 8 45 0) := by
                  refine ⟨rfl, fun q hq => ?_, fun j h44 h45 => ?_⟩
                  · have z8 : q ≠ 8 := fun z => hq (by simp [z])
                    simp only [qq_ui, va_up, z8, if_false]
                  · show upd (upd (w3.1 8) 44 0) 45 0 j = _
                    rw [upd_at, upd_at, if_neg h45, if_neg h44]
                have xqu : qn (w3.1 8 8) = N := (Dn0_c E3).2.2.2.2.2
                have hmD : mD (qq_ui (qq_ui w3 8 44 0) 8 45 0) = mBD w3 N := by
                  rw [mD_tk hw4]
                  show mBD w3 (qn (w3.1 8 8)) = _
                  rw [xqu]
                have hbw : bW (mD (qq_ui (qq_ui w3 8 44 0) 8 45 0)) (qn a) (qn b) = L := by
                  rw [hmD, qa, qb]
                  exact bwm
                conv => whnf
                (repeat ((first | refine br_t (by decide) ?_ | refine br_f (by decide) ?_ | refine br_nt (by decide) ?_ | refine br_nf (by decide) ?_ | refine ⟨_, rfl, ?_⟩ | refine br_t (by with_reducible assumption) ?_ | refine br_f (by with_reducible assumption) ?_ | refine br_nt (by with_reducible assumption) ?_ | refine br_nf (by with_reducible assumption) ?_ | refine ⟨by with_reducible assumption, ?_⟩ | refine ⟨Or.inl rfl, ?_⟩ | refine br_t (by assumption) ?_ | refine br_f (by assumption) ?_ | refine br_nt (by assumption) ?_ | refine br_nf (by assumption) ?_ | refine ⟨by assumption, ?_⟩); (conv => whnf)))
                refine ⟨⟨?_, hv2, hv, ?_, ?_, Nat.le_refl _, 0, rfl, ?_⟩, fun l' hl' hr' => ?_⟩
                · show mTrk (qq_ui (qq_ui w3 8 44 0) 8 45 0) (qn (w3.1 8 8))
                  rw [xqu]
                  exact mTrk_tk hw4 hT4
                · show qn a < qn (w3.1 8 8)
                  rw [xqu, qa]
                  exact hn
                · exact Nat.lt_of_le_of_lt (Nat.le_of_eq hbw) o0
                · refine Nat.le_trans (Nat.le_of_eq (show 0 + bW (mD (qq_ui (qq_ui w3 8 44 0) 8 45 0)) (qn a) (qn b) + 1 = L + 1 by rw [hbw, Nat.zero_add])) (by omega)
                · have hll : l'.length = l.length := by
                    rw [hlen]
                    exact hl'.trans (by rw [show bW (mD (qq_ui (qq_ui w3 8 44 0) 8 45 0)) (qn a) (qn b) = L from hbw])
                  have hr2 : ∀ d0, bOut (mBD w3 N) n j d0 → ∃ s', bRun (mBD w3 N) l'.reverse (n, j, d0, []) s' := by
                    rw [← hmD, ← qa, ← qb]
                    exact hr'
                  obtain ⟨z1, z2⟩ := trk_end (w1 := w) (w2 := w2) (w3 := w3) (w4 := qq_ui (qq_ui w3 8 44 0) 8 45 0) (l := l) (l' := l') hl2 E3 (fun q hq => mT q hq) rfl (by rw [hlen]; omega) hrun3 hout3 btr bto hll hr2
                  conv => whnf
                  exact ⟨congrArg (fun x => some (Value.int x)) z1, z2⟩
            · have p1 : ¬ lg_cmp (w.2 24 (a * 13 + b).toNatClampNeg) 300 < 0 := by
                rw [e24]
                exact o1
              have p2 : 0 ≤ lg_cmp (w.2 24 (a * 13 + b).toNatClampNeg) 300 := by
                rw [e24]
                exact o2
              have l24v := l24
              obtain ⟨x2, x4, x88, -, -, xq⟩ := Dn0_c E1
              have x3 : 0 ≤ a ∧ a ≤ w.1 8 8 - 1 := by
                rw [x88]
                exact k3n
              have hh : mHolds w (qn a) (qn b) := by
                rw [qa, qb]
                exact Dn0_h E1 hcl1
              conv => whnf
              (repeat ((first | refine br_t (by decide) ?_ | refine br_f (by decide) ?_ | refine br_nt (by decide) ?_ | refine br_nf (by decide) ?_ | refine ⟨_, rfl, ?_⟩ | refine br_t (by with_reducible assumption) ?_ | refine br_f (by with_reducible assumption) ?_ | refine br_nt (by with_reducible assumption) ?_ | refine br_nf (by with_reducible assumption) ?_ | refine ⟨by with_reducible assumption, ?_⟩ | refine ⟨Or.inl rfl, ?_⟩ | refine br_t (by assumption) ?_ | refine br_f (by assumption) ?_ | refine br_nt (by assumption) ?_ | refine br_nf (by assumption) ?_ | refine ⟨by assumption, ?_⟩); (conv => whnf)))
              refine ⟨fun _ => Dn0_mp E1, fun h8 => ?_, fun h8 w3 hm => ?_⟩
              · have l60 : w.2 60 (13 * a + b).toNatClampNeg = lN L := by
                  rw [i_c c2 (by omega), Dn0_len E1 (E1.2.2.2.2.2.2.1 h46) (E1.2.2.2.2.2.2.2 h8) hcl1]
                  exact l24v
                have g1 : ¬ lg_cmp (w.2 60 (13 * a + b).toNatClampNeg + 1) 300 ≤ 0 := by
                  rw [l60]
                  exact o3
                have g2 : 0 < lg_cmp (w.2 60 (13 * a + b).toNatClampNeg + 1) 300 := by
                  rw [l60]
                  exact o4
                conv => whnf
                (repeat ((first | refine br_t (by decide) ?_ | refine br_f (by decide) ?_ | refine br_nt (by decide) ?_ | refine br_nf (by decide) ?_ | refine ⟨_, rfl, ?_⟩ | refine br_t (by with_reducible assumption) ?_ | refine br_f (by with_reducible assumption) ?_ | refine br_nt (by with_reducible assumption) ?_ | refine br_nf (by with_reducible assumption) ?_ | refine ⟨by with_reducible assumption, ?_⟩ | refine ⟨Or.inl rfl, ?_⟩ | refine br_t (by assumption) ?_ | refine br_f (by assumption) ?_ | refine br_nt (by assumption) ?_ | refine br_nf (by assumption) ?_ | refine ⟨by assumption, ?_⟩); (conv => whnf)))
                exact ⟨rfl, N, Pn, E, E1.1, E1.2.1, hT1, Dn0_sol E1⟩
              · obtain ⟨E3, h8'⟩ := Dn0_meas E1 hm
                obtain ⟨mp, m24, m46, m5, mT0⟩ := Dn_M hm
                have hcl3 : PClo w3 n d0 j := by
                  rw [mp]
                  exact hcl1
                have h463 : ¬ w3.1 4 6 = 0 := by
                  rw [m46]
                  exact h46
                have l243 : w3.2 24 (13 * n + j) = lN L := by
                  rw [m24]
                  exact l24v
                have hT3 : iTrk w3 := by
                  obtain ⟨⟨s1, s2⟩, -⟩ := hm
                  exact iTrk_eq (s2 44 (by decide) (by decide)) (by rw [s1 5 (by decide)]) (fun q hq => s1 q (fun z => by subst z; revert hq; decide)) hT1
                have l60 : w3.2 60 (13 * a + b).toNatClampNeg = lN L := by
                  rw [i_c c2 (by omega), Dn0_len E3 (E3.2.2.2.2.2.2.1 h463) (E3.2.2.2.2.2.2.2 h8') hcl3]
                  exact l243
                have g1 : ¬ lg_cmp (w3.2 60 (13 * a + b).toNatClampNeg + 1) 300 ≤ 0 := by
                  rw [l60]
                  exact o3
                have g2 : 0 < lg_cmp (w3.2 60 (13 * a + b).toNatClampNeg + 1) 300 := by
                  rw [l60]
                  exact o4
                conv => whnf
                (repeat ((first | refine br_t (by decide) ?_ | refine br_f (by decide) ?_ | refine br_nt (by decide) ?_ | refine br_nf (by decide) ?_ | refine ⟨_, rfl, ?_⟩ | refine br_t (by with_reducible assumption) ?_ | refine br_f (by with_reducible assumption) ?_ | refine br_nt (by with_reducible assumption) ?_ | refine br_nf (by with_reducible assumption) ?_ | refine ⟨by with_reducible assumption, ?_⟩ | refine ⟨Or.inl rfl, ?_⟩ | refine br_t (by assumption) ?_ | refine br_f (by assumption) ?_ | refine br_nt (by assumption) ?_ | refine br_nf (by assumption) ?_ | refine ⟨by assumption, ?_⟩); (conv => whnf)))
                exact ⟨rfl, N, Pn, E, E3.1, E3.2.1, hT3, Dn0_sol E3⟩
          · rw [xN, xP] at hf
            obtain ⟨D1, h46⟩ := Dn_find D hf
            have hcl1 : PClo w1 n d0 j := by
              rw [Dn_P (t := 0) (E := 0) hf]
              exact hcl0
            clear z1 z2 z3 z4 hb1 k3 k1 k2
            obtain ⟨-, -, -, -, -, xN1, xP1, -⟩ := Dn_c D1
            have hT1 : iTrk w1 := D1.2.2.1
            have E1 := Dn_0 D1
            have hc1 := E1.2.2.2.2.2.2.1 h46
            obtain ⟨L, hL, l24⟩ := Dn_lenC E1 hc1 hcl1
            have e24 : w1.2 24 (a * 13 + b).toNatClampNeg = lN L := by
              rw [i_c c1 (by omega)]
              exact l24
            rcases lc_c hL with ⟨o0, o1, o2, o3, o4⟩ | ⟨o0, o1, o2, o3, o4⟩
            · have p1 : lg_cmp (w1.2 24 (a * 13 + b).toNatClampNeg) 300 < 0 := by
                rw [e24]
                exact o1
              have p2 : ¬ 0 ≤ lg_cmp (w1.2 24 (a * 13 + b).toNatClampNeg) 300 := by
                rw [e24]
                exact o2
              obtain ⟨l, dd, s', hbok, hbw, hout, hlen, hrun⟩ := trk_c E1 hc1 hcl1 l24 o0
              have hD : cD w1 = cBD w1 N Pn := by
                show cBD w1 (qn (w1.1 1 10)) (qn (w1.1 1 9)) = _
                rw [xN1, xP1]
              conv => whnf
              (repeat ((first | refine br_t (by decide) ?_ | refine br_f (by decide) ?_ | refine br_nt (by decide) ?_ | refine br_nf (by decide) ?_ | refine ⟨_, rfl, ?_⟩ | refine br_t (by with_reducible assumption) ?_ | refine br_f (by with_reducible assumption) ?_ | refine br_nt (by with_reducible assumption) ?_ | refine br_nf (by with_reducible assumption) ?_ | refine ⟨by with_reducible assumption, ?_⟩ | refine ⟨Or.inl rfl, ?_⟩ | refine br_t (by assumption) ?_ | refine br_f (by assumption) ?_ | refine br_nt (by assumption) ?_ | refine br_nf (by assumption) ?_ | refine ⟨by assumption, ?_⟩); (conv => whnf)))
              refine ⟨⟨by rw [xN1, xP1]; exact Dn_Tp E1 hc1, by rw [hD, xN1]; exact hbok, hv, by rw [qa, xN1]; exact hn, hv2, by rw [hD, qa, qb, hbw]; exact o0, by rw [hD, qa, qb]; exact hout, by rw [hD, qa, qb, hbw]; exact hlen, by rw [hD, qa, qb]; exact hrun⟩, fun w2 hl2 => ?_⟩
              have E2 := Dn0_laid E1 hl2
              obtain ⟨hfr2, e82', htf2⟩ := laid_fr hl2
              have hcl2 : PClo w2 n d0 j := by
                rw [PClo_sp (frT_sp hfr2)]
                exact hcl1
              have h462 : ¬ w2.1 4 6 = 0 := by
                rw [hl2.1 4 (by decide)]
                exact h46
              have l24v : w2.2 24 (13 * n + j) = lN L := by
                rw [hl2.2.1]
                exact l24
              have hcb2 : cBD w2 N Pn = cBD w1 N Pn := cBD_tf htf2 N Pn
              have hrun2 := hrun
              rw [← hcb2] at hrun2
              have hout2 := hout
              rw [← hcb2] at hout2
              clear hbok hbw hD
              obtain ⟨x2, x4, x88, -, -, xq⟩ := Dn0_c E2
              have x3 : 0 ≤ a ∧ a ≤ w2.1 8 8 - 1 := by
                rw [x88]
                exact k3n
              have hh : mHolds w2 (qn a) (qn b) := by
                rw [qa, qb]
                exact Dn0_h E2 hcl2
              conv => whnf
              (repeat ((first | refine br_t (by decide) ?_ | refine br_f (by decide) ?_ | refine br_nt (by decide) ?_ | refine br_nf (by decide) ?_ | refine ⟨_, rfl, ?_⟩ | refine br_t (by with_reducible assumption) ?_ | refine br_f (by with_reducible assumption) ?_ | refine br_nt (by with_reducible assumption) ?_ | refine br_nf (by with_reducible assumption) ?_ | refine ⟨by with_reducible assumption, ?_⟩ | refine ⟨Or.inl rfl, ?_⟩ | refine br_t (by assumption) ?_ | refine br_f (by assumption) ?_ | refine br_nt (by assumption) ?_ | refine br_nf (by assumption) ?_ | refine ⟨by assumption, ?_⟩); (conv => whnf)))
              refine ⟨fun _ => Dn0_mp E2, fun h8 => ?_, fun h8 w3 hm => ?_⟩
              · have l60' : w2.2 60 (13 * n + j) = lN L := by
                  rw [Dn0_len E2 (E2.2.2.2.2.2.2.1 h462) (E2.2.2.2.2.2.2.2 h8) hcl2]
                  exact l24v
                have l60 : w2.2 60 (13 * a + b).toNatClampNeg = lN L := by
                  rw [i_c c2 (by omega)]
                  exact l60'
                have g1 : lg_cmp (w2.2 60 (13 * a + b).toNatClampNeg + 1) 300 ≤ 0 := by
                  rw [l60]
                  exact o3
                have g2 : ¬ 0 < lg_cmp (w2.2 60 (13 * a + b).toNatClampNeg + 1) 300 := by
                  rw [l60]
                  exact o4
                obtain ⟨hT4, bwm, btr, bto⟩ := trk_m E2 (E2.2.2.2.2.2.2.1 h462) (E2.2.2.2.2.2.2.2 h8) hn (by omega) l60' o0
                have hw4 : mTk w2 (qq_ui (qq_ui w2 8 44 0) 8 45 0) := by
                  refine ⟨rfl, fun q hq => ?_, fun j h44 h45 => ?_⟩
                  · have z8 : q ≠ 8 := fun z => hq (by simp [z])
                    simp only [qq_ui, va_up, z8, if_false]
                  · show upd (upd (w2.1 8) 44 0) 45 0 j = _
                    rw [upd_at, upd_at, if_neg h45, if_neg h44]
                have xqu : qn (w2.1 8 8) = N := (Dn0_c E2).2.2.2.2.2
                have hmD : mD (qq_ui (qq_ui w2 8 44 0) 8 45 0) = mBD w2 N := by
                  rw [mD_tk hw4]
                  show mBD w2 (qn (w2.1 8 8)) = _
                  rw [xqu]
                have hbw : bW (mD (qq_ui (qq_ui w2 8 44 0) 8 45 0)) (qn a) (qn b) = L := by
                  rw [hmD, qa, qb]
                  exact bwm
                conv => whnf
                (repeat ((first | refine br_t (by decide) ?_ | refine br_f (by decide) ?_ | refine br_nt (by decide) ?_ | refine br_nf (by decide) ?_ | refine ⟨_, rfl, ?_⟩ | refine br_t (by with_reducible assumption) ?_ | refine br_f (by with_reducible assumption) ?_ | refine br_nt (by with_reducible assumption) ?_ | refine br_nf (by with_reducible assumption) ?_ | refine ⟨by with_reducible assumption, ?_⟩ | refine ⟨Or.inl rfl, ?_⟩ | refine br_t (by assumption) ?_ | refine br_f (by assumption) ?_ | refine br_nt (by assumption) ?_ | refine br_nf (by assumption) ?_ | refine ⟨by assumption, ?_⟩); (conv => whnf)))
                refine ⟨⟨?_, hv2, hv, ?_, ?_, Nat.le_refl _, 0, rfl, ?_⟩, fun l' hl' hr' => ?_⟩
                · show mTrk (qq_ui (qq_ui w2 8 44 0) 8 45 0) (qn (w2.1 8 8))
                  rw [xqu]
                  exact mTrk_tk hw4 hT4
                · show qn a < qn (w2.1 8 8)
                  rw [xqu, qa]
                  exact hn
                · exact Nat.lt_of_le_of_lt (Nat.le_of_eq hbw) o0
                · refine Nat.le_trans (Nat.le_of_eq (show 0 + bW (mD (qq_ui (qq_ui w2 8 44 0) 8 45 0)) (qn a) (qn b) + 1 = L + 1 by rw [hbw, Nat.zero_add])) (by omega)
                · have hll : l'.length = l.length := by
                    rw [hlen]
                    exact hl'.trans (by rw [show bW (mD (qq_ui (qq_ui w2 8 44 0) 8 45 0)) (qn a) (qn b) = L from hbw])
                  have hr2 : ∀ d0, bOut (mBD w2 N) n j d0 → ∃ s', bRun (mBD w2 N) l'.reverse (n, j, d0, []) s' := by
                    rw [← hmD, ← qa, ← qb]
                    exact hr'
                  obtain ⟨z1, z2⟩ := trk_end (w1 := w1) (w2 := w2) (w3 := w2) (w4 := qq_ui (qq_ui w2 8 44 0) 8 45 0) (l := l) (l' := l') hl2 E2 (fun q hq => rfl) rfl (by rw [hlen]; omega) hrun2 hout2 btr bto hll hr2
                  conv => whnf
                  exact ⟨congrArg (fun x => some (Value.int x)) z1, z2⟩
              · obtain ⟨E3, h8'⟩ := Dn0_meas E2 hm
                obtain ⟨mp, m24, m46, m5, mT0⟩ := Dn_M hm
                have hcl3 : PClo w3 n d0 j := by
                  rw [mp]
                  exact hcl2
                have h463 : ¬ w3.1 4 6 = 0 := by
                  rw [m46]
                  exact h462
                have l243 : w3.2 24 (13 * n + j) = lN L := by
                  rw [m24]
                  exact l24v
                have mT : ∀ q, q ∈ [5, 25, 26, 27, 28] → w3.1 q = w2.1 q := fun q hq => by
                  by_cases z : q = 5
                  · rw [z, m5]
                  · exact mT0 q (by simp only [List.mem_cons, List.not_mem_nil, or_false] at hq ⊢; omega)
                have hcb : cBD w3 N Pn = cBD w2 N Pn := by
                  obtain ⟨⟨s1, s2⟩, f2, f3, f4, f5⟩ := hm
                  have z8 : ∀ q, q ∈ pgI → q ≠ 8 := by decide
                  exact cBD_cg ⟨fun q hq => s1 q (z8 q hq), fun j hj => s2 j (fun z => by subst z; revert hj; decide) (fun z => by subst z; revert hj; decide), f3 17 (by decide) (by decide)⟩ (s1 19 (by decide)) (f3 33 (by decide) (by decide)) (f3 24 (by decide) (by decide))
                have hrun3 := hrun2
                rw [← hcb] at hrun3
                have hout3 := hout2
                rw [← hcb] at hout3
                have l60' : w3.2 60 (13 * n + j) = lN L := by
                  rw [Dn0_len E3 (E3.2.2.2.2.2.2.1 h463) (E3.2.2.2.2.2.2.2 h8') hcl3]
                  exact l243
                have l60 : w3.2 60 (13 * a + b).toNatClampNeg = lN L := by
                  rw [i_c c2 (by omega)]
                  exact l60'
                have g1 : lg_cmp (w3.2 60 (13 * a + b).toNatClampNeg + 1) 300 ≤ 0 := by
                  rw [l60]
                  exact o3
                have g2 : ¬ 0 < lg_cmp (w3.2 60 (13 * a + b).toNatClampNeg + 1) 300 := by
                  rw [l60]
                  exact o4
                obtain ⟨hT4, bwm, btr, bto⟩ := trk_m E3 (E3.2.2.2.2.2.2.1 h463) (E3.2.2.2.2.2.2.2 h8') hn (by omega) l60' o0
                have hw4 : mTk w3 (qq_ui (qq_ui w3 8 44 0) 8 45 0) := by
                  refine ⟨rfl, fun q hq => ?_, fun j h44 h45 => ?_⟩
                  · have z8 : q ≠ 8 := fun z => hq (by simp [z])
                    simp only [qq_ui, va_up, z8, if_false]
                  · show upd (upd (w3.1 8) 44 0) 45 0 j = _
                    rw [upd_at, upd_at, if_neg h45, if_neg h44]
                have xqu : qn (w3.1 8 8) = N := (Dn0_c E3).2.2.2.2.2
                have hmD : mD (qq_ui (qq_ui w3 8 44 0) 8 45 0) = mBD w3 N := by
                  rw [mD_tk hw4]
                  show mBD w3 (qn (w3.1 8 8)) = _
                  rw [xqu]
                have hbw : bW (mD (qq_ui (qq_ui w3 8 44 0) 8 45 0)) (qn a) (qn b) = L := by
                  rw [hmD, qa, qb]
                  exact bwm
                conv => whnf
                (repeat ((first | refine br_t (by decide) ?_ | refine br_f (by decide) ?_ | refine br_nt (by decide) ?_ | refine br_nf (by decide) ?_ | refine ⟨_, rfl, ?_⟩ | refine br_t (by with_reducible assumption) ?_ | refine br_f (by with_reducible assumption) ?_ | refine br_nt (by with_reducible assumption) ?_ | refine br_nf (by with_reducible assumption) ?_ | refine ⟨by with_reducible assumption, ?_⟩ | refine ⟨Or.inl rfl, ?_⟩ | refine br_t (by assumption) ?_ | refine br_f (by assumption) ?_ | refine br_nt (by assumption) ?_ | refine br_nf (by assumption) ?_ | refine ⟨by assumption, ?_⟩); (conv => whnf)))
                refine ⟨⟨?_, hv2, hv, ?_, ?_, Nat.le_refl _, 0, rfl, ?_⟩, fun l' hl' hr' => ?_⟩
                · show mTrk (qq_ui (qq_ui w3 8 44 0) 8 45 0) (qn (w3.1 8 8))
                  rw [xqu]
                  exact mTrk_tk hw4 hT4
                · show qn a < qn (w3.1 8 8)
                  rw [xqu, qa]
                  exact hn
                · exact Nat.lt_of_le_of_lt (Nat.le_of_eq hbw) o0
                · refine Nat.le_trans (Nat.le_of_eq (show 0 + bW (mD (qq_ui (qq_ui w3 8 44 0) 8 45 0)) (qn a) (qn b) + 1 = L + 1 by rw [hbw, Nat.zero_add])) (by omega)
                · have hll : l'.length = l.length := by
                    rw [hlen]
                    exact hl'.trans (by rw [show bW (mD (qq_ui (qq_ui w3 8 44 0) 8 45 0)) (qn a) (qn b) = L from hbw])
                  have hr2 : ∀ d0, bOut (mBD w3 N) n j d0 → ∃ s', bRun (mBD w3 N) l'.reverse (n, j, d0, []) s' := by
                    rw [← hmD, ← qa, ← qb]
                    exact hr'
                  obtain ⟨z1, z2⟩ := trk_end (w1 := w1) (w2 := w2) (w3 := w3) (w4 := qq_ui (qq_ui w3 8 44 0) 8 45 0) (l := l) (l' := l') hl2 E3 (fun q hq => mT q hq) rfl (by rw [hlen]; omega) hrun3 hout3 btr bto hll hr2
                  conv => whnf
                  exact ⟨congrArg (fun x => some (Value.int x)) z1, z2⟩
            · have p1 : ¬ lg_cmp (w1.2 24 (a * 13 + b).toNatClampNeg) 300 < 0 := by
                rw [e24]
                exact o1
              have p2 : 0 ≤ lg_cmp (w1.2 24 (a * 13 + b).toNatClampNeg) 300 := by
                rw [e24]
                exact o2
              have l24v := l24
              obtain ⟨x2, x4, x88, -, -, xq⟩ := Dn0_c E1
              have x3 : 0 ≤ a ∧ a ≤ w1.1 8 8 - 1 := by
                rw [x88]
                exact k3n
              have hh : mHolds w1 (qn a) (qn b) := by
                rw [qa, qb]
                exact Dn0_h E1 hcl1
              conv => whnf
              (repeat ((first | refine br_t (by decide) ?_ | refine br_f (by decide) ?_ | refine br_nt (by decide) ?_ | refine br_nf (by decide) ?_ | refine ⟨_, rfl, ?_⟩ | refine br_t (by with_reducible assumption) ?_ | refine br_f (by with_reducible assumption) ?_ | refine br_nt (by with_reducible assumption) ?_ | refine br_nf (by with_reducible assumption) ?_ | refine ⟨by with_reducible assumption, ?_⟩ | refine ⟨Or.inl rfl, ?_⟩ | refine br_t (by assumption) ?_ | refine br_f (by assumption) ?_ | refine br_nt (by assumption) ?_ | refine br_nf (by assumption) ?_ | refine ⟨by assumption, ?_⟩); (conv => whnf)))
              refine ⟨fun _ => Dn0_mp E1, fun h8 => ?_, fun h8 w3 hm => ?_⟩
              · have l60 : w1.2 60 (13 * a + b).toNatClampNeg = lN L := by
                  rw [i_c c2 (by omega), Dn0_len E1 (E1.2.2.2.2.2.2.1 h46) (E1.2.2.2.2.2.2.2 h8) hcl1]
                  exact l24v
                have g1 : ¬ lg_cmp (w1.2 60 (13 * a + b).toNatClampNeg + 1) 300 ≤ 0 := by
                  rw [l60]
                  exact o3
                have g2 : 0 < lg_cmp (w1.2 60 (13 * a + b).toNatClampNeg + 1) 300 := by
                  rw [l60]
                  exact o4
                conv => whnf
                (repeat ((first | refine br_t (by decide) ?_ | refine br_f (by decide) ?_ | refine br_nt (by decide) ?_ | refine br_nf (by decide) ?_ | refine ⟨_, rfl, ?_⟩ | refine br_t (by with_reducible assumption) ?_ | refine br_f (by with_reducible assumption) ?_ | refine br_nt (by with_reducible assumption) ?_ | refine br_nf (by with_reducible assumption) ?_ | refine ⟨by with_reducible assumption, ?_⟩ | refine ⟨Or.inl rfl, ?_⟩ | refine br_t (by assumption) ?_ | refine br_f (by assumption) ?_ | refine br_nt (by assumption) ?_ | refine br_nf (by assumption) ?_ | refine ⟨by assumption, ?_⟩); (conv => whnf)))
                exact ⟨rfl, N, Pn, E, E1.1, E1.2.1, hT1, Dn0_sol E1⟩
              · obtain ⟨E3, h8'⟩ := Dn0_meas E1 hm
                obtain ⟨mp, m24, m46, m5, mT0⟩ := Dn_M hm
                have hcl3 : PClo w3 n d0 j := by
                  rw [mp]
                  exact hcl1
                have h463 : ¬ w3.1 4 6 = 0 := by
                  rw [m46]
                  exact h46
                have l243 : w3.2 24 (13 * n + j) = lN L := by
                  rw [m24]
                  exact l24v
                have hT3 : iTrk w3 := by
                  obtain ⟨⟨s1, s2⟩, -⟩ := hm
                  exact iTrk_eq (s2 44 (by decide) (by decide)) (by rw [s1 5 (by decide)]) (fun q hq => s1 q (fun z => by subst z; revert hq; decide)) hT1
                have l60 : w3.2 60 (13 * a + b).toNatClampNeg = lN L := by
                  rw [i_c c2 (by omega), Dn0_len E3 (E3.2.2.2.2.2.2.1 h463) (E3.2.2.2.2.2.2.2 h8') hcl3]
                  exact l243
                have g1 : ¬ lg_cmp (w3.2 60 (13 * a + b).toNatClampNeg + 1) 300 ≤ 0 := by
                  rw [l60]
                  exact o3
                have g2 : 0 < lg_cmp (w3.2 60 (13 * a + b).toNatClampNeg + 1) 300 := by
                  rw [l60]
                  exact o4
                conv => whnf
                (repeat ((first | refine br_t (by decide) ?_ | refine br_f (by decide) ?_ | refine br_nt (by decide) ?_ | refine br_nf (by decide) ?_ | refine ⟨_, rfl, ?_⟩ | refine br_t (by with_reducible assumption) ?_ | refine br_f (by with_reducible assumption) ?_ | refine br_nt (by with_reducible assumption) ?_ | refine br_nf (by with_reducible assumption) ?_ | refine ⟨by with_reducible assumption, ?_⟩ | refine ⟨Or.inl rfl, ?_⟩ | refine br_t (by assumption) ?_ | refine br_f (by assumption) ?_ | refine br_nt (by assumption) ?_ | refine br_nf (by assumption) ?_ | refine ⟨by assumption, ?_⟩); (conv => whnf)))
                exact ⟨rfl, N, Pn, E, E3.1, E3.2.1, hT3, Dn0_sol E3⟩
        · have hno := hcl
          have hb1 : (qq_or (w.1 20) (13 * qn a) 13 >>> (b &&& 31)) &&& 1 = 0 := by
            refine hbit.mpr ?_
            cases y : bt (qq_or (w.1 20) (13 * n) 13) j with
            | false => rfl
            | true => exact absurd (((Dn_h D (by omega)).1).mp y) hcl
          have hh : ¬ mHolds w (qn a) (qn b) := by
            rw [qa, qb]
            exact fun z => hno (((Dn_h D (by omega)).2).mp z)
          clear hbit
          ((conv => whnf); (repeat ((first | refine br_t (by decide) ?_ | refine br_f (by decide) ?_ | refine br_nt (by decide) ?_ | refine br_nf (by decide) ?_ | refine ⟨_, rfl, ?_⟩ | refine br_t (by with_reducible assumption) ?_ | refine br_f (by with_reducible assumption) ?_ | refine br_nt (by with_reducible assumption) ?_ | refine br_nf (by with_reducible assumption) ?_ | refine ⟨by with_reducible assumption, ?_⟩ | refine ⟨Or.inl rfl, ?_⟩ | refine br_t (by assumption) ?_ | refine br_f (by assumption) ?_ | refine br_nt (by assumption) ?_ | refine br_nf (by assumption) ?_ | refine ⟨by assumption, ?_⟩); (conv => whnf))); exact ⟨rfl, h⟩)
    · ((conv => whnf); (repeat ((first | refine br_t (by decide) ?_ | refine br_f (by decide) ?_ | refine br_nt (by decide) ?_ | refine br_nf (by decide) ?_ | refine ⟨_, rfl, ?_⟩ | refine br_t (by with_reducible assumption) ?_ | refine br_f (by with_reducible assumption) ?_ | refine br_nt (by with_reducible assumption) ?_ | refine br_nf (by with_reducible assumption) ?_ | refine ⟨by with_reducible assumption, ?_⟩ | refine ⟨Or.inl rfl, ?_⟩ | refine br_t (by assumption) ?_ | refine br_f (by assumption) ?_ | refine br_nt (by assumption) ?_ | refine br_nf (by assumption) ?_ | refine ⟨by assumption, ?_⟩); (conv => whnf))); exact ⟨rfl, h⟩)
    · ((conv => whnf); (repeat ((first | refine br_t (by decide) ?_ | refine br_f (by decide) ?_ | refine br_nt (by decide) ?_ | refine br_nf (by decide) ?_ | refine ⟨_, rfl, ?_⟩ | refine br_t (by with_reducible assumption) ?_ | refine br_f (by with_reducible assumption) ?_ | refine br_nt (by with_reducible assumption) ?_ | refine br_nf (by with_reducible assumption) ?_ | refine ⟨by with_reducible assumption, ?_⟩ | refine ⟨Or.inl rfl, ?_⟩ | refine br_t (by assumption) ?_ | refine br_f (by assumption) ?_ | refine br_nt (by assumption) ?_ | refine br_nf (by assumption) ?_ | refine ⟨by assumption, ?_⟩); (conv => whnf))); exact ⟨rfl, h⟩)
  · ((conv => whnf); (repeat ((first | refine br_t (by decide) ?_ | refine br_f (by decide) ?_ | refine br_nt (by decide) ?_ | refine br_nf (by decide) ?_ | refine ⟨_, rfl, ?_⟩ | refine br_t (by with_reducible assumption) ?_ | refine br_f (by with_reducible assumption) ?_ | refine br_nt (by with_reducible assumption) ?_ | refine br_nf (by with_reducible assumption) ?_ | refine ⟨by with_reducible assumption, ?_⟩ | refine ⟨Or.inl rfl, ?_⟩ | refine br_t (by assumption) ?_ | refine br_f (by assumption) ?_ | refine br_nt (by assumption) ?_ | refine br_nf (by assumption) ?_ | refine ⟨by assumption, ?_⟩); (conv => whnf))); exact ⟨rfl, h⟩)
  · ((conv => whnf); (repeat ((first | refine br_t (by decide) ?_ | refine br_f (by decide) ?_ | refine br_nt (by decide) ?_ | refine br_nf (by decide) ?_ | refine ⟨_, rfl, ?_⟩ | refine br_t (by with_reducible assumption) ?_ | refine br_f (by with_reducible assumption) ?_ | refine br_nt (by with_reducible assumption) ?_ | refine br_nf (by with_reducible assumption) ?_ | refine ⟨by with_reducible assumption, ?_⟩ | refine ⟨Or.inl rfl, ?_⟩ | refine br_t (by assumption) ?_ | refine br_f (by assumption) ?_ | refine br_nt (by assumption) ?_ | refine br_nf (by assumption) ?_ | refine ⟨by assumption, ?_⟩); (conv => whnf))); exact ⟨rfl, h⟩)
