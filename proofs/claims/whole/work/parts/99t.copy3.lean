theorem cp_end {w w2 : qq_w} {N Pn E n m i j k : Nat} {a b c d e : Int32} (H : iPrg w N Pn E) (hF : iFnd w) (hT : iTrk w) (hS : iSol w N Pn) (hn : n < N) (hm : m < N) (ea : a = nI n) (ec : c = nI m) (ei : b = nI i) (ej : d = nI j) (ek : e = nI k) (hik : i + k ≤ 4) (hjk : j + k ≤ 4) (g9 : cX w n 1 = 9) (g0 : cX w n 0 = cX w m 0) (u1 : w2.2 = (eW w).2) (u2 : ∀ q, q ≠ 8 → q ≠ 51 → q ≠ 55 → w2.1 q = va_up (eW w).1 14 (va_cpy (w.1 14) (w.1 14) (qn (a * 4 + b)) (qn (c * 4 + d)) (qn e)) q) (u3 : w2.1 8 = upd (w.1 8) 27 0) (u4 : qq_cpd (w.1 51) (4 * m + j) (w.1 51) (4 * n + i) k (w2.1 51)) : Inv w2 := by
  have hN : N ≤ 64 := H.1.1
  have hP8 : Pn ≤ 8 := H.1.2.1
  have qi : qn (a * 4 + b) = 4 * n + i := by rw [nI_ml ea ei (nI_lit 4), qn_nI (by omega)]
  have qj : qn (c * 4 + d) = 4 * m + j := by rw [nI_ml ec ej (nI_lit 4), qn_nI (by omega)]
  have qk : qn e = k := by rw [ek, qn_nI (by omega)]
  have e14 : w2.1 14 = va_cpy (w.1 14) (w.1 14) (4 * n + i) (4 * m + j) k := by
    rw [u2 14 (by decide) (by decide) (by decide), ← qi, ← qj, ← qk]
    rfl
  have e51 : ∀ x, w2.1 51 x = if 4 * m + j ≤ x ∧ x < 4 * m + j + k then w.1 51 (4 * n + i + (x - (4 * m + j))) else w.1 51 x := u4
  refine Inv_end2 (w := w) (N := N) (Pn := Pn) (E := E) hF hT hS.1 (iPrg_arg H (fun c' p' hc' hp' h9' h0' i' hi' => ?_) (fun q hq z1 z2 => ?_) (fun j hj => ?_) ?_) ?_ ?_ ?_ ?_ ?_ (fun q hq => ?_) ?_ ?_
  · rw [e14, e51]
    unfold va_cpy
    by_cases z : 4 * m + j ≤ 4 * c' + i' ∧ 4 * c' + i' < 4 * m + j + k
    · obtain rfl : c' = m := by omega
      rw [if_pos z, if_pos z]
      obtain ⟨q', hq', f0', p2, r2, m2', -, -, -, -, -, -, -, -, -, -, ha2⟩ := iP_call H hn g9
      have hpp : p' = q' := nI_inj (by omega) (by omega) (h0'.symm.trans (g0.symm.trans f0'))
      have := ha2 (i + (4 * c' + i' - (4 * c' + j))) (by omega)
      rw [hpp, Nat.add_assoc]
      exact this
    · rw [if_neg z, if_neg z]
      obtain ⟨q', hq', f0', p2, r2, m2', -, -, -, -, -, -, -, -, -, -, ha2⟩ := iP_call H hc' h9'
      have hpp : p' = q' := nI_inj (by omega) (by omega) (h0'.symm.trans f0')
      rw [hpp]
      exact ha2 i' hi'
  · simp only [pgI, List.mem_cons, List.not_mem_nil, or_false] at hq
    rcases hq with rfl | rfl | rfl | rfl | rfl | rfl | rfl | rfl | rfl | rfl | rfl | rfl | rfl | rfl | rfl | rfl | rfl | rfl | rfl | rfl | rfl | rfl | rfl | rfl | rfl | rfl | rfl | rfl | rfl <;> first | exact absurd rfl z1 | exact absurd rfl z2 | exact u2 _ (by decide) (by decide) (by decide)
  · rw [u3]
    show upd (w.1 8) 27 0 j = _
    rw [upd_at, if_neg (fun z => by subst z; revert hj; decide)]
  · rw [u1]
    rfl
  · rw [u2 3 (by decide) (by decide) (by decide)]
    rfl
  · rw [u3]
    rfl
  · rw [u2 3 (by decide) (by decide) (by decide)]
    rfl
  · rw [u2 3 (by decide) (by decide) (by decide)]
    rfl
  · rw [u2 4 (by decide) (by decide) (by decide)]
    rfl
  · simp only [List.mem_cons, List.not_mem_nil, or_false] at hq
    rcases hq with rfl | rfl | rfl | rfl | rfl | rfl | rfl | rfl | rfl | rfl | rfl | rfl | rfl <;> exact u2 _ (by decide) (by decide) (by decide)
  · rw [u3]
    rfl
  · rw [u3]
    rfl
set_option maxHeartbeats 16000000 in
set_option maxRecDepth 100000 in
theorem lo_copy (a b c d e : Int32) : lwI Inv T_X7_copy T_X8_copy [.int a, .int b, .int c, .int d, .int e] := by
  intro w h
  obtain ⟨N, Pn, E, H, hF, hT, hS⟩ := id h
  obtain ⟨hN, hP, hE, e10, e88, -⟩ := H.1
  rcases arg_c (a := a) (by omega) e10 e88 with ⟨n, hn, ea, k1, k2, k3⟩ | ⟨k1, k3⟩ | ⟨k1, k2, k3⟩
  · have hv : vp_in a 64 := i_in 64 ea (by omega) (by decide)
    rcases arg_c (a := c) (by omega) e10 e88 with ⟨m, hm, ec, m1, m2, m3⟩ | ⟨m1, m3⟩ | ⟨m1, m2, m3⟩
    · have hv2 : vp_in c 64 := i_in 64 ec (by omega) (by decide)
      obtain ⟨⟨v0, v1, v8⟩, s0, s1, s8, t0, t1, t8⟩ := nd_c H hn ea
      obtain ⟨⟨w0, w1, w8⟩, r0, r1, r8, u0, u1, u8⟩ := nd_c H hm ec
      by_cases g0 : cX w n 0 = cX w m 0
      · have x0 : w.1 13 (a * 10 + 0).toNatClampNeg = w.1 13 (c * 10 + 0).toNatClampNeg := by rw [s0, r0, g0]
        have y0 : w.1 42 a.toNatClampNeg = w.1 42 c.toNatClampNeg := by rw [t0, u0, g0]
        clear s0 r0 t0 u0
        have f3 := vk3
        by_cases g9 : cX w n 1 = 9
        · have x9 : w.1 13 (a * 10 + 1).toNatClampNeg = 9 := s1.trans g9
          have y9 : w.1 43 a.toNatClampNeg = 9 := t1.trans g9
          clear s1 t1
          by_cases l9 : cX w m 1 = 9
          · have z9 : w.1 13 (c * 10 + 1).toNatClampNeg = 9 := r1.trans l9
            have j9 : w.1 43 c.toNatClampNeg = 9 := u1.trans l9
            obtain ⟨-, -, -, -, -, mm, -, -, hmm, -, -, -, -, -, -, q8, -⟩ := iP_call H hn g9
            obtain ⟨-, -, -, -, -, mm2, -, -, hmm2, -, -, -, -, -, -, q82, -⟩ := iP_call H hm l9
            have P1 := pl_e (b := b) (e := e) hmm (s8.trans q8) (t8.trans q8)
            have P2 := pl_e (b := d) (e := e) hmm2 (r8.trans q82) (u8.trans q82)
            refine cp_cls k1 k2 m1 m2 v0 v1 v8 w0 w1 w8 x0 x9 z9 (fun h1 h2 => ?_) (fun hb => ?_)
            · obtain ⟨⟨i, k, hik, ei, ek⟩, -, p1⟩ := P1.resolve_right (fun z => z.1 h1)
              obtain ⟨⟨j, k', hjk, ej, ek'⟩, -, p2⟩ := P2.resolve_right (fun z => z.1 h2)
              have hkk : k = k' := nI_inj (by omega) (by omega) (ek.symm.trans ek')
              subst hkk
              refine ⟨⟨4 * n + i, 4 * m + j, k, nI_ml ea ei (nI_lit 4), nI_ml ec ej (nI_lit 4), ek, by omega, by omega⟩, 1, rfl, cp_mdl k3 m3 hv hv2 y0 y9 j9 (fun _ _ => ⟨n, i, m, j, k, ⟨ea, ei, ec, ej, ek⟩, by omega, by omega, by omega, by omega, fun w2 hw2 => ⟨rfl, ?_⟩⟩) (fun z => absurd ⟨p1, p2⟩ z)⟩
              obtain ⟨a1, a2, a3, a4⟩ := hw2
              exact cp_end H hF hT hS hn hm ea ec ei ej ek (by omega) (by omega) g9 g0 a1 a2 a3 a4
            · refine ⟨-3, rfl, cp_mdl k3 m3 hv hv2 y0 y9 j9 (fun h1 h2 => ?_) (fun _ => ⟨rfl, Inv_fnd h 2 (by decide)⟩)⟩
              exact absurd ⟨(P1.resolve_right (fun z => z.2 h1)).2.1, (P2.resolve_right (fun z => z.2 h2)).2.1⟩ hb
          · have z9 : ¬ w.1 13 (c * 10 + 1).toNatClampNeg = 9 := fun z => l9 (r1.symm.trans z)
            have j9 : ¬ w.1 43 c.toNatClampNeg = 9 := fun z => l9 (u1.symm.trans z)
            clear s8 t8 r8 u8 r1 u1
            conv => whnf
            (repeat ((first | refine br_t (by decide) ?_ | refine br_f (by decide) ?_ | refine br_nt (by decide) ?_ | refine br_nf (by decide) ?_ | refine ⟨_, rfl, ?_⟩ | refine br_t (by with_reducible assumption) ?_ | refine br_f (by with_reducible assumption) ?_ | refine br_nt (by with_reducible assumption) ?_ | refine br_nf (by with_reducible assumption) ?_ | refine ⟨by with_reducible assumption, ?_⟩ | refine ⟨Or.inl rfl, ?_⟩ | refine br_t (by assumption) ?_ | refine br_f (by assumption) ?_ | refine br_nt (by assumption) ?_ | refine br_nf (by assumption) ?_ | refine ⟨by assumption, ?_⟩); (conv => whnf)))
            exact ⟨rfl, Inv_fnd h 3 (by decide)⟩
        · have x9 : ¬ w.1 13 (a * 10 + 1).toNatClampNeg = 9 := fun z => g9 (s1.symm.trans z)
          have y9 : ¬ w.1 43 a.toNatClampNeg = 9 := fun z => g9 (t1.symm.trans z)
          clear s8 t8 r8 u8 r1 u1 s1 t1
          conv => whnf
          (repeat ((first | refine br_t (by decide) ?_ | refine br_f (by decide) ?_ | refine br_nt (by decide) ?_ | refine br_nf (by decide) ?_ | refine ⟨_, rfl, ?_⟩ | refine br_t (by with_reducible assumption) ?_ | refine br_f (by with_reducible assumption) ?_ | refine br_nt (by with_reducible assumption) ?_ | refine br_nf (by with_reducible assumption) ?_ | refine ⟨by with_reducible assumption, ?_⟩ | refine ⟨Or.inl rfl, ?_⟩ | refine br_t (by assumption) ?_ | refine br_f (by assumption) ?_ | refine br_nt (by assumption) ?_ | refine br_nf (by assumption) ?_ | refine ⟨by assumption, ?_⟩); (conv => whnf)))
          exact ⟨rfl, Inv_fnd h 3 (by decide)⟩
      · have x0 : ¬ w.1 13 (a * 10 + 0).toNatClampNeg = w.1 13 (c * 10 + 0).toNatClampNeg := fun z => g0 (s0.symm.trans (z.trans r0))
        have y0 : ¬ w.1 42 a.toNatClampNeg = w.1 42 c.toNatClampNeg := fun z => g0 (t0.symm.trans (z.trans u0))
        ((conv => whnf); (repeat ((first | refine br_t (by decide) ?_ | refine br_f (by decide) ?_ | refine br_nt (by decide) ?_ | refine br_nf (by decide) ?_ | refine ⟨_, rfl, ?_⟩ | refine br_t (by with_reducible assumption) ?_ | refine br_f (by with_reducible assumption) ?_ | refine br_nt (by with_reducible assumption) ?_ | refine br_nf (by with_reducible assumption) ?_ | refine ⟨by with_reducible assumption, ?_⟩ | refine ⟨Or.inl rfl, ?_⟩ | refine br_t (by assumption) ?_ | refine br_f (by assumption) ?_ | refine br_nt (by assumption) ?_ | refine br_nf (by assumption) ?_ | refine ⟨by assumption, ?_⟩); (conv => whnf))); exact ⟨rfl, h⟩)
    · ((conv => whnf); (repeat ((first | refine br_t (by decide) ?_ | refine br_f (by decide) ?_ | refine br_nt (by decide) ?_ | refine br_nf (by decide) ?_ | refine ⟨_, rfl, ?_⟩ | refine br_t (by with_reducible assumption) ?_ | refine br_f (by with_reducible assumption) ?_ | refine br_nt (by with_reducible assumption) ?_ | refine br_nf (by with_reducible assumption) ?_ | refine ⟨by with_reducible assumption, ?_⟩ | refine ⟨Or.inl rfl, ?_⟩ | refine br_t (by assumption) ?_ | refine br_f (by assumption) ?_ | refine br_nt (by assumption) ?_ | refine br_nf (by assumption) ?_ | refine ⟨by assumption, ?_⟩); (conv => whnf))); exact ⟨rfl, h⟩)
    · ((conv => whnf); (repeat ((first | refine br_t (by decide) ?_ | refine br_f (by decide) ?_ | refine br_nt (by decide) ?_ | refine br_nf (by decide) ?_ | refine ⟨_, rfl, ?_⟩ | refine br_t (by with_reducible assumption) ?_ | refine br_f (by with_reducible assumption) ?_ | refine br_nt (by with_reducible assumption) ?_ | refine br_nf (by with_reducible assumption) ?_ | refine ⟨by with_reducible assumption, ?_⟩ | refine ⟨Or.inl rfl, ?_⟩ | refine br_t (by assumption) ?_ | refine br_f (by assumption) ?_ | refine br_nt (by assumption) ?_ | refine br_nf (by assumption) ?_ | refine ⟨by assumption, ?_⟩); (conv => whnf))); exact ⟨rfl, h⟩)
  · ((conv => whnf); (repeat ((first | refine br_t (by decide) ?_ | refine br_f (by decide) ?_ | refine br_nt (by decide) ?_ | refine br_nf (by decide) ?_ | refine ⟨_, rfl, ?_⟩ | refine br_t (by with_reducible assumption) ?_ | refine br_f (by with_reducible assumption) ?_ | refine br_nt (by with_reducible assumption) ?_ | refine br_nf (by with_reducible assumption) ?_ | refine ⟨by with_reducible assumption, ?_⟩ | refine ⟨Or.inl rfl, ?_⟩ | refine br_t (by assumption) ?_ | refine br_f (by assumption) ?_ | refine br_nt (by assumption) ?_ | refine br_nf (by assumption) ?_ | refine ⟨by assumption, ?_⟩); (conv => whnf))); exact ⟨rfl, h⟩)
  · ((conv => whnf); (repeat ((first | refine br_t (by decide) ?_ | refine br_f (by decide) ?_ | refine br_nt (by decide) ?_ | refine br_nf (by decide) ?_ | refine ⟨_, rfl, ?_⟩ | refine br_t (by with_reducible assumption) ?_ | refine br_f (by with_reducible assumption) ?_ | refine br_nt (by with_reducible assumption) ?_ | refine br_nf (by with_reducible assumption) ?_ | refine ⟨by with_reducible assumption, ?_⟩ | refine ⟨Or.inl rfl, ?_⟩ | refine br_t (by assumption) ?_ | refine br_f (by assumption) ?_ | refine br_nt (by assumption) ?_ | refine br_nf (by assumption) ?_ | refine ⟨by assumption, ?_⟩); (conv => whnf))); exact ⟨rfl, h⟩)
