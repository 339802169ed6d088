theorem sb_s : ∀ m, m < 5 → ∀ i, i < 5 → i ≤ m → nI m - nI i = nI (m - i) := by decide +kernel
theorem pl_c {b e r r2 : Int32} {m : Nat} (hm : m ≤ 4) (hr : r = nI m) (hr2 : r2 = nI m) : (∃ i k, i + k ≤ m ∧ b = nI i ∧ e = nI k ∧ ¬ b < 0 ∧ ¬ r < b ∧ ¬ e < 0 ∧ ¬ r - b < e ∧ ¬ 0 < lg_cmp (b.toInt64 + e.toInt64) r2.toInt64) ∨ b < 0 ∨ (¬ b < 0 ∧ e < 0 ∧ r < b) ∨ (¬ b < 0 ∧ e < 0 ∧ ¬ r < b) ∨ (¬ b < 0 ∧ ¬ e < 0 ∧ r < b ∧ 0 < lg_cmp (b.toInt64 + e.toInt64) r2.toInt64) ∨ (¬ b < 0 ∧ ¬ e < 0 ∧ ¬ r < b ∧ r - b < e ∧ 0 < lg_cmp (b.toInt64 + e.toInt64) r2.toInt64) := by
  subst hr hr2
  have e0 : (0 : Int32).toInt = 0 := by decide
  have em : (nI m).toInt = m := nI_toInt (by omega)
  have hb1 := b.toInt_lt
  have hb2 := b.le_toInt
  have he1 := e.toInt_lt
  have he2 := e.le_toInt
  have hs : (b.toInt64 + e.toInt64).toInt = b.toInt + e.toInt := by
    rw [Int64.toInt_add, Int32.toInt_toInt64, Int32.toInt_toInt64]
    apply Int.bmod_eq_of_le <;> omega
  have hL : 0 < lg_cmp (b.toInt64 + e.toInt64) (nI m).toInt64 ↔ (m : Int) < b.toInt + e.toInt := by
    rw [lcmp_gt, Int64.lt_iff_toInt_lt, hs, Int32.toInt_toInt64, em]
  rw [hL]
  by_cases h1 : b < 0
  · exact Or.inr (Or.inl h1)
  have h1' := h1
  rw [i_lt, e0] at h1'
  have hrb : nI m < b ↔ (m : Int) < b.toInt := by rw [i_lt, em]
  by_cases h2 : e < 0
  · by_cases h3 : nI m < b
    · exact Or.inr (Or.inr (Or.inl ⟨h1, h2, h3⟩))
    · exact Or.inr (Or.inr (Or.inr (Or.inl ⟨h1, h2, h3⟩)))
  have h2' := h2
  rw [i_lt, e0] at h2'
  by_cases h3 : nI m < b
  · exact Or.inr (Or.inr (Or.inr (Or.inr (Or.inl ⟨h1, h2, h3, by rw [hrb] at h3; omega⟩))))
  have h3' := h3
  rw [hrb] at h3'
  have hbn : b = nI b.toInt.toNat := by
    apply Int32.toInt_inj.mp
    rw [nI_toInt (by omega)]
    omega
  have hd : nI m - b < e ↔ (m : Int) < b.toInt + e.toInt := by
    rw [hbn, sb_s m (by omega) _ (by omega) (by omega), i_lt, nI_toInt (by omega), nI_toInt (by omega)]
    omega
  by_cases h4 : nI m - b < e
  · exact Or.inr (Or.inr (Or.inr (Or.inr (Or.inr ⟨h1, h2, h3, h4, hd.mp h4⟩))))
  · have h4' := h4
    rw [hd] at h4'
    refine Or.inl ⟨b.toInt.toNat, e.toInt.toNat, by omega, hbn, ?_, h1, h3, h2, h4, h4'⟩
    apply Int32.toInt_inj.mp
    rw [nI_toInt (by omega)]
    omega
theorem nd_c {w : qq_w} {N Pn E n : Nat} {a : Int32} (H : iPrg w N Pn E) (hn : n < N) (ea : a = nI n) : (vp_in (a * 10 + 0) 640 ∧ vp_in (a * 10 + 1) 640 ∧ vp_in (a * 10 + 8) 640) ∧ w.1 13 (a * 10 + 0).toNatClampNeg = cX w n 0 ∧ w.1 13 (a * 10 + 1).toNatClampNeg = cX w n 1 ∧ w.1 13 (a * 10 + 8).toNatClampNeg = cX w n 8 ∧ w.1 42 a.toNatClampNeg = cX w n 0 ∧ w.1 43 a.toNatClampNeg = cX w n 1 ∧ w.1 50 a.toNatClampNeg = cX w n 8 := by
  have hN : N ≤ 64 := H.1.1
  have c0 := nI_ml ea (x := 0) (i := 0) rfl (nI_lit 10)
  have c1 := nI_ml ea (x := 1) (i := 1) rfl (nI_lit 10)
  have c8 := nI_ml ea (x := 8) (i := 8) rfl (nI_lit 10)
  have ka : a.toNatClampNeg = n := i_c ea (by omega)
  exact ⟨⟨i_in 640 c0 (by omega) (by decide), i_in 640 c1 (by omega) (by decide), i_in 640 c8 (by omega) (by decide)⟩, by rw [i_c c0 (by omega)], by rw [i_c c1 (by omega)], by rw [i_c c8 (by omega)], by rw [ka, (iP_tell H hn).1], by rw [ka, (iP_tell H hn).2.1], by rw [ka, (iP_tell H hn).2.2.2.2.2.2.2.2.1]⟩
set_option maxHeartbeats 16000000 in
theorem lo_copy (a b c d e : Int32) : lwI Inv T_X7_copy T_X8_copy [.int a, .int b, .int c, .int d, .int e] := by
  intro w h
  obtain ⟨N, Pn, E, H, hF, hT, hS⟩ := id h
  obtain ⟨hN, hP, hE, e10, e88, -⟩ := H.1
  rcases arg_c (a := a) (by omega) e10 e88 with ⟨n, hn, ea, k1, k2, k3⟩ | ⟨k1, k3⟩ | ⟨k1, k2, k3⟩
  · have hv : vp_in a 64 := i_in 64 ea (by omega) (by decide)
    rcases arg_c (a := c) (by omega) e10 e88 with ⟨m, hm, ec, m1, m2, m3⟩ | ⟨m1, m3⟩ | ⟨m1, m2, m3⟩
    · have hv2 : vp_in c 64 := i_in 64 ec (by omega) (by decide)
      obtain ⟨⟨v0, v1, v8⟩, s0, s1, s8, t0, t1, t8⟩ := nd_c H hn ea
      obtain ⟨⟨w0, w1, w8⟩, r0, r1, r8, u0, u1, u8⟩ := nd_c H hm ec
      by_cases g0 : cX w n 0 = cX w m 0
      · have x0 : w.1 13 (a * 10 + 0).toNatClampNeg = w.1 13 (c * 10 + 0).toNatClampNeg := by rw [s0, r0, g0]
        have y0 : w.1 42 a.toNatClampNeg = w.1 42 c.toNatClampNeg := by rw [t0, u0, g0]
        clear s0 r0 t0 u0
        have f3 := vk3
        by_cases g9 : cX w n 1 = 9
        · have x9 : w.1 13 (a * 10 + 1).toNatClampNeg = 9 := s1.trans g9
          have y9 : w.1 43 a.toNatClampNeg = 9 := t1.trans g9
          clear s1 t1
          by_cases l9 : cX w m 1 = 9
          · have z9 : w.1 13 (c * 10 + 1).toNatClampNeg = 9 := r1.trans l9
            have j9 : w.1 43 c.toNatClampNeg = 9 := u1.trans l9
            clear r1 u1 f3
            have f2 := vk2
            obtain ⟨-, -, -, -, -, mm, -, -, hmm, -, -, -, -, -, -, q8, -⟩ := iP_call H hn g9
            obtain ⟨-, -, -, -, -, mm2, -, -, hmm2, -, -, -, -, -, -, q82, -⟩ := iP_call H hm l9
            have hr := s8.trans q8
            have hr' := t8.trans q8
            have hr2 := r8.trans q82
            have hr2' := u8.trans q82
            clear s8 t8 r8 u8 q8 q82
            rcases pl_c (b := b) (e := e) hmm hr hr' with ⟨i, k, hik, ei, ek, n1, n2, n3, n4, n5⟩ | n1 | ⟨na1, na2, na3⟩ | ⟨nb1, nb2, nb3⟩ | ⟨nc1, nc2, nc3, nc4⟩ | ⟨nd1, nd2, nd3, nd4, nd5⟩
            · rcases pl_c (b := d) (e := e) hmm2 hr2 hr2' with ⟨j, k', hjk, ej, ek', o1, o2, o3, o4, o5⟩ | o1 | ⟨oa1, oa2, oa3⟩ | ⟨ob1, ob2, ob3⟩ | ⟨oc1, oc2, oc3, oc4⟩ | ⟨od1, od2, od3, od4, od5⟩
              · have hkk : k = k' := nI_inj (by omega) (by omega) (ek.symm.trans ek')
                subst hkk
                clear hr hr' hr2 hr2'
                conv => whnf
                (repeat ((first | refine br_t (by decide) ?_ | refine br_f (by decide) ?_ | refine br_nt (by decide) ?_ | refine br_nf (by decide) ?_ | refine ⟨_, rfl, ?_⟩ | refine br_t (by with_reducible assumption) ?_ | refine br_f (by with_reducible assumption) ?_ | refine br_nt (by with_reducible assumption) ?_ | refine br_nf (by with_reducible assumption) ?_ | refine ⟨by with_reducible assumption, ?_⟩ | refine ⟨Or.inl rfl, ?_⟩ | refine br_t (by assumption) ?_ | refine br_f (by assumption) ?_ | refine br_nt (by assumption) ?_ | refine br_nf (by assumption) ?_ | refine ⟨by assumption, ?_⟩); (conv => whnf)))
                refine ⟨⟨4 * n + i, 4 * m + j, k, nI_ml ea ei (nI_lit 4), nI_ml ec ej (nI_lit 4), ek, by omega, by omega⟩, ?_⟩
                conv => whnf
                (repeat ((first | refine br_t (by decide) ?_ | refine br_f (by decide) ?_ | refine br_nt (by decide) ?_ | refine br_nf (by decide) ?_ | refine ⟨_, rfl, ?_⟩ | refine br_t (by with_reducible assumption) ?_ | refine br_f (by with_reducible assumption) ?_ | refine br_nt (by with_reducible assumption) ?_ | refine br_nf (by with_reducible assumption) ?_ | refine ⟨by with_reducible assumption, ?_⟩ | refine ⟨Or.inl rfl, ?_⟩ | refine br_t (by assumption) ?_ | refine br_f (by assumption) ?_ | refine br_nt (by assumption) ?_ | refine br_nf (by assumption) ?_ | refine ⟨by assumption, ?_⟩); (conv => whnf)))
                refine ⟨rfl, rfl, n, i, m, j, k, ⟨rfl, by rw [← ea]; rfl, by rw [← ei]; rfl, by rw [← ec]; rfl, by rw [← ej]; rfl, by rw [← ek]; rfl, rfl, trivial⟩, by omega, by omega, by omega, by omega, fun w2 hw2 => ?_⟩
                obtain ⟨u1, u2, u3, u4⟩ := hw2
                have qi : qn (a * 4 + b) = 4 * n + i := by rw [nI_ml ea ei (nI_lit 4), qn_nI (by omega)]
                have qj : qn (c * 4 + d) = 4 * m + j := by rw [nI_ml ec ej (nI_lit 4), qn_nI (by omega)]
                have qk : qn e = k := by rw [ek, qn_nI (by omega)]
                have e14 : w2.1 14 = va_cpy (w.1 14) (w.1 14) (4 * n + i) (4 * m + j) k := by
                  rw [u2 14 (by decide) (by decide) (by decide), ← qi, ← qj, ← qk]
                  rfl
                have e51 : ∀ x, w2.1 51 x = if 4 * m + j ≤ x ∧ x < 4 * m + j + k then w.1 51 (4 * n + i + (x - (4 * m + j))) else w.1 51 x := u4
                refine ⟨rfl, Inv_end2 (w := w) (N := N) (Pn := Pn) (E := E) hF hT hS.1 (iPrg_arg H (fun c' p' hc' hp' h9' h0' i' hi' => ?_) (fun q hq z1 z2 => ?_) (fun j hj => ?_) ?_) ?_ ?_ ?_ ?_ ?_ (fun q hq => ?_) ?_ ?_⟩
                · rw [e14, e51]
                  unfold va_cpy
                  by_cases z : 4 * m + j ≤ 4 * c' + i' ∧ 4 * c' + i' < 4 * m + j + k
                  · obtain rfl : c' = m := by omega
                    rw [if_pos z, if_pos z]
                    obtain ⟨q', hq', f0', p2, r2, m2', -, -, -, -, -, -, -, -, -, -, ha2⟩ := iP_call H hn g9
                    have hpp : p' = q' := nI_inj (by omega) (by omega) (h0'.symm.trans (g0.symm.trans f0'))
                    have := ha2 (i + (4 * c' + i' - (4 * c' + j))) (by omega)
                    rw [hpp, Nat.add_assoc]
                    exact this
                  · rw [if_neg z, if_neg z]
                    obtain ⟨q', hq', f0', p2, r2, m2', -, -, -, -, -, -, -, -, -, -, ha2⟩ := iP_call H hc' h9'
                    have hpp : p' = q' := nI_inj (by omega) (by omega) (h0'.symm.trans f0')
                    rw [hpp]
                    exact ha2 i' hi'
                · simp only [pgI, List.mem_cons, List.not_mem_nil, or_false] at hq
                  rcases hq with rfl | rfl | rfl | rfl | rfl | rfl | rfl | rfl | rfl | rfl | rfl | rfl | rfl | rfl | rfl | rfl | rfl | rfl | rfl | rfl | rfl | rfl | rfl | rfl | rfl | rfl | rfl | rfl | rfl <;> first | exact absurd rfl z1 | exact absurd rfl z2 | exact u2 _ (by decide) (by decide) (by decide)
                · rw [u3]
                  show upd (w.1 8) 27 0 j = _
                  rw [upd_at, if_neg (fun z => by subst z; revert hj; decide)]
                · rw [u1]
                  rfl
                · rw [u2 3 (by decide) (by decide) (by decide)]
                  rfl
                · rw [u3]
                  rfl
                · rw [u2 3 (by decide) (by decide) (by decide)]
                  rfl
                · rw [u2 3 (by decide) (by decide) (by decide)]
                  rfl
                · rw [u2 4 (by decide) (by decide) (by decide)]
                  rfl
                · simp only [List.mem_cons, List.not_mem_nil, or_false] at hq
                  rcases hq with rfl | rfl | rfl | rfl | rfl | rfl | rfl | rfl | rfl | rfl | rfl | rfl | rfl <;> exact u2 _ (by decide) (by decide) (by decide)
                · rw [u3]
                  rfl
                · rw [u3]
                  rfl
              · clear hr hr' hr2 hr2'
                conv => whnf
                (repeat ((first | refine br_t (by decide) ?_ | refine br_f (by decide) ?_ | refine br_nt (by decide) ?_ | refine br_nf (by decide) ?_ | refine ⟨_, rfl, ?_⟩ | refine br_t (by with_reducible assumption) ?_ | refine br_f (by with_reducible assumption) ?_ | refine br_nt (by with_reducible assumption) ?_ | refine br_nf (by with_reducible assumption) ?_ | refine ⟨by with_reducible assumption, ?_⟩ | refine ⟨Or.inl rfl, ?_⟩ | refine br_t (by assumption) ?_ | refine br_f (by assumption) ?_ | refine br_nt (by assumption) ?_ | refine br_nf (by assumption) ?_ | refine ⟨by assumption, ?_⟩); (conv => whnf)))
                exact ⟨rfl, Inv_fnd h 2 (by decide)⟩
              · clear hr hr' hr2 hr2'
                conv => whnf
                (repeat ((first | refine br_t (by decide) ?_ | refine br_f (by decide) ?_ | refine br_nt (by decide) ?_ | refine br_nf (by decide) ?_ | refine ⟨_, rfl, ?_⟩ | refine br_t (by with_reducible assumption) ?_ | refine br_f (by with_reducible assumption) ?_ | refine br_nt (by with_reducible assumption) ?_ | refine br_nf (by with_reducible assumption) ?_ | refine ⟨by with_reducible assumption, ?_⟩ | refine ⟨Or.inl rfl, ?_⟩ | refine br_t (by assumption) ?_ | refine br_f (by assumption) ?_ | refine br_nt (by assumption) ?_ | refine br_nf (by assumption) ?_ | refine ⟨by assumption, ?_⟩); (conv => whnf)))
                exact ⟨rfl, Inv_fnd h 2 (by decide)⟩
              · clear hr hr' hr2 hr2'
                conv => whnf
                (repeat ((first | refine br_t (by decide) ?_ | refine br_f (by decide) ?_ | refine br_nt (by decide) ?_ | refine br_nf (by decide) ?_ | refine ⟨_, rfl, ?_⟩ | refine br_t (by with_reducible assumption) ?_ | refine br_f (by with_reducible assumption) ?_ | refine br_nt (by with_reducible assumption) ?_ | refine br_nf (by with_reducible assumption) ?_ | refine ⟨by with_reducible assumption, ?_⟩ | refine ⟨Or.inl rfl, ?_⟩ | refine br_t (by assumption) ?_ | refine br_f (by assumption) ?_ | refine br_nt (by assumption) ?_ | refine br_nf (by assumption) ?_ | refine ⟨by assumption, ?_⟩); (conv => whnf)))
                exact ⟨rfl, Inv_fnd h 2 (by decide)⟩
              · clear hr hr' hr2 hr2'
                conv => whnf
                (repeat ((first | refine br_t (by decide) ?_ | refine br_f (by decide) ?_ | refine br_nt (by decide) ?_ | refine br_nf (by decide) ?_ | refine ⟨_, rfl, ?_⟩ | refine br_t (by with_reducible assumption) ?_ | refine br_f (by with_reducible assumption) ?_ | refine br_nt (by with_reducible assumption) ?_ | refine br_nf (by with_reducible assumption) ?_ | refine ⟨by with_reducible assumption, ?_⟩ | refine ⟨Or.inl rfl, ?_⟩ | refine br_t (by assumption) ?_ | refine br_f (by assumption) ?_ | refine br_nt (by assumption) ?_ | refine br_nf (by assumption) ?_ | refine ⟨by assumption, ?_⟩); (conv => whnf)))
                exact ⟨rfl, Inv_fnd h 2 (by decide)⟩
              · clear hr hr' hr2 hr2'
                conv => whnf
                (repeat ((first | refine br_t (by decide) ?_ | refine br_f (by decide) ?_ | refine br_nt (by decide) ?_ | refine br_nf (by decide) ?_ | refine ⟨_, rfl, ?_⟩ | refine br_t (by with_reducible assumption) ?_ | refine br_f (by with_reducible assumption) ?_ | refine br_nt (by with_reducible assumption) ?_ | refine br_nf (by with_reducible assumption) ?_ | refine ⟨by with_reducible assumption, ?_⟩ | refine ⟨Or.inl rfl, ?_⟩ | refine br_t (by assumption) ?_ | refine br_f (by assumption) ?_ | refine br_nt (by assumption) ?_ | refine br_nf (by assumption) ?_ | refine ⟨by assumption, ?_⟩); (conv => whnf)))
                exact ⟨rfl, Inv_fnd h 2 (by decide)⟩
            · clear hr hr' hr2 hr2'
              conv => whnf
              (repeat ((first | refine br_t (by decide) ?_ | refine br_f (by decide) ?_ | refine br_nt (by decide) ?_ | refine br_nf (by decide) ?_ | refine ⟨_, rfl, ?_⟩ | refine br_t (by with_reducible assumption) ?_ | refine br_f (by with_reducible assumption) ?_ | refine br_nt (by with_reducible assumption) ?_ | refine br_nf (by with_reducible assumption) ?_ | refine ⟨by with_reducible assumption, ?_⟩ | refine ⟨Or.inl rfl, ?_⟩ | refine br_t (by assumption) ?_ | refine br_f (by assumption) ?_ | refine br_nt (by assumption) ?_ | refine br_nf (by assumption) ?_ | refine ⟨by assumption, ?_⟩); (conv => whnf)))
              exact ⟨rfl, Inv_fnd h 2 (by decide)⟩
            · clear hr hr' hr2 hr2'
              conv => whnf
              (repeat ((first | refine br_t (by decide) ?_ | refine br_f (by decide) ?_ | refine br_nt (by decide) ?_ | refine br_nf (by decide) ?_ | refine ⟨_, rfl, ?_⟩ | refine br_t (by with_reducible assumption) ?_ | refine br_f (by with_reducible assumption) ?_ | refine br_nt (by with_reducible assumption) ?_ | refine br_nf (by with_reducible assumption) ?_ | refine ⟨by with_reducible assumption, ?_⟩ | refine ⟨Or.inl rfl, ?_⟩ | refine br_t (by assumption) ?_ | refine br_f (by assumption) ?_ | refine br_nt (by assumption) ?_ | refine br_nf (by assumption) ?_ | refine ⟨by assumption, ?_⟩); (conv => whnf)))
              exact ⟨rfl, Inv_fnd h 2 (by decide)⟩
            · clear hr hr' hr2 hr2'
              conv => whnf
              (repeat ((first | refine br_t (by decide) ?_ | refine br_f (by decide) ?_ | refine br_nt (by decide) ?_ | refine br_nf (by decide) ?_ | refine ⟨_, rfl, ?_⟩ | refine br_t (by with_reducible assumption) ?_ | refine br_f (by with_reducible assumption) ?_ | refine br_nt (by with_reducible assumption) ?_ | refine br_nf (by with_reducible assumption) ?_ | refine ⟨by with_reducible assumption, ?_⟩ | refine ⟨Or.inl rfl, ?_⟩ | refine br_t (by assumption) ?_ | refine br_f (by assumption) ?_ | refine br_nt (by assumption) ?_ | refine br_nf (by assumption) ?_ | refine ⟨by assumption, ?_⟩); (conv => whnf)))
              exact ⟨rfl, Inv_fnd h 2 (by decide)⟩
            · clear hr hr' hr2 hr2'
              conv => whnf
              (repeat ((first | refine br_t (by decide) ?_ | refine br_f (by decide) ?_ | refine br_nt (by decide) ?_ | refine br_nf (by decide) ?_ | refine ⟨_, rfl, ?_⟩ | refine br_t (by with_reducible assumption) ?_ | refine br_f (by with_reducible assumption) ?_ | refine br_nt (by with_reducible assumption) ?_ | refine br_nf (by with_reducible assumption) ?_ | refine ⟨by with_reducible assumption, ?_⟩ | refine ⟨Or.inl rfl, ?_⟩ | refine br_t (by assumption) ?_ | refine br_f (by assumption) ?_ | refine br_nt (by assumption) ?_ | refine br_nf (by assumption) ?_ | refine ⟨by assumption, ?_⟩); (conv => whnf)))
              exact ⟨rfl, Inv_fnd h 2 (by decide)⟩
            · clear hr hr' hr2 hr2'
              conv => whnf
              (repeat ((first | refine br_t (by decide) ?_ | refine br_f (by decide) ?_ | refine br_nt (by decide) ?_ | refine br_nf (by decide) ?_ | refine ⟨_, rfl, ?_⟩ | refine br_t (by with_reducible assumption) ?_ | refine br_f (by with_reducible assumption) ?_ | refine br_nt (by with_reducible assumption) ?_ | refine br_nf (by with_reducible assumption) ?_ | refine ⟨by with_reducible assumption, ?_⟩ | refine ⟨Or.inl rfl, ?_⟩ | refine br_t (by assumption) ?_ | refine br_f (by assumption) ?_ | refine br_nt (by assumption) ?_ | refine br_nf (by assumption) ?_ | refine ⟨by assumption, ?_⟩); (conv => whnf)))
              exact ⟨rfl, Inv_fnd h 2 (by decide)⟩
          · have z9 : ¬ w.1 13 (c * 10 + 1).toNatClampNeg = 9 := fun z => l9 (r1.symm.trans z)
            have j9 : ¬ w.1 43 c.toNatClampNeg = 9 := fun z => l9 (u1.symm.trans z)
            clear s8 t8 r8 u8 r1 u1
            conv => whnf
            (repeat ((first | refine br_t (by decide) ?_ | refine br_f (by decide) ?_ | refine br_nt (by decide) ?_ | refine br_nf (by decide) ?_ | refine ⟨_, rfl, ?_⟩ | refine br_t (by with_reducible assumption) ?_ | refine br_f (by with_reducible assumption) ?_ | refine br_nt (by with_reducible assumption) ?_ | refine br_nf (by with_reducible assumption) ?_ | refine ⟨by with_reducible assumption, ?_⟩ | refine ⟨Or.inl rfl, ?_⟩ | refine br_t (by assumption) ?_ | refine br_f (by assumption) ?_ | refine br_nt (by assumption) ?_ | refine br_nf (by assumption) ?_ | refine ⟨by assumption, ?_⟩); (conv => whnf)))
            exact ⟨rfl, Inv_fnd h 3 (by decide)⟩
        · have x9 : ¬ w.1 13 (a * 10 + 1).toNatClampNeg = 9 := fun z => g9 (s1.symm.trans z)
          have y9 : ¬ w.1 43 a.toNatClampNeg = 9 := fun z => g9 (t1.symm.trans z)
          clear s8 t8 r8 u8 r1 u1 s1 t1
          conv => whnf
          (repeat ((first | refine br_t (by decide) ?_ | refine br_f (by decide) ?_ | refine br_nt (by decide) ?_ | refine br_nf (by decide) ?_ | refine ⟨_, rfl, ?_⟩ | refine br_t (by with_reducible assumption) ?_ | refine br_f (by with_reducible assumption) ?_ | refine br_nt (by with_reducible assumption) ?_ | refine br_nf (by with_reducible assumption) ?_ | refine ⟨by with_reducible assumption, ?_⟩ | refine ⟨Or.inl rfl, ?_⟩ | refine br_t (by assumption) ?_ | refine br_f (by assumption) ?_ | refine br_nt (by assumption) ?_ | refine br_nf (by assumption) ?_ | refine ⟨by assumption, ?_⟩); (conv => whnf)))
          exact ⟨rfl, Inv_fnd h 3 (by decide)⟩
      · have x0 : ¬ w.1 13 (a * 10 + 0).toNatClampNeg = w.1 13 (c * 10 + 0).toNatClampNeg := fun z => g0 (s0.symm.trans (z.trans r0))
        have y0 : ¬ w.1 42 a.toNatClampNeg = w.1 42 c.toNatClampNeg := fun z => g0 (t0.symm.trans (z.trans u0))
        ((conv => whnf); (repeat ((first | refine br_t (by decide) ?_ | refine br_f (by decide) ?_ | refine br_nt (by decide) ?_ | refine br_nf (by decide) ?_ | refine ⟨_, rfl, ?_⟩ | refine br_t (by with_reducible assumption) ?_ | refine br_f (by with_reducible assumption) ?_ | refine br_nt (by with_reducible assumption) ?_ | refine br_nf (by with_reducible assumption) ?_ | refine ⟨by with_reducible assumption, ?_⟩ | refine ⟨Or.inl rfl, ?_⟩ | refine br_t (by assumption) ?_ | refine br_f (by assumption) ?_ | refine br_nt (by assumption) ?_ | refine br_nf (by assumption) ?_ | refine ⟨by assumption, ?_⟩); (conv => whnf))); exact ⟨rfl, h⟩)
    · ((conv => whnf); (repeat ((first | refine br_t (by decide) ?_ | refine br_f (by decide) ?_ | refine br_nt (by decide) ?_ | refine br_nf (by decide) ?_ | refine ⟨_, rfl, ?_⟩ | refine br_t (by with_reducible assumption) ?_ | refine br_f (by with_reducible assumption) ?_ | refine br_nt (by with_reducible assumption) ?_ | refine br_nf (by with_reducible assumption) ?_ | refine ⟨by with_reducible assumption, ?_⟩ | refine ⟨Or.inl rfl, ?_⟩ | refine br_t (by assumption) ?_ | refine br_f (by assumption) ?_ | refine br_nt (by assumption) ?_ | refine br_nf (by assumption) ?_ | refine ⟨by assumption, ?_⟩); (conv => whnf))); exact ⟨rfl, h⟩)
    · ((conv => whnf); (repeat ((first | refine br_t (by decide) ?_ | refine br_f (by decide) ?_ | refine br_nt (by decide) ?_ | refine br_nf (by decide) ?_ | refine ⟨_, rfl, ?_⟩ | refine br_t (by with_reducible assumption) ?_ | refine br_f (by with_reducible assumption) ?_ | refine br_nt (by with_reducible assumption) ?_ | refine br_nf (by with_reducible assumption) ?_ | refine ⟨by with_reducible assumption, ?_⟩ | refine ⟨Or.inl rfl, ?_⟩ | refine br_t (by assumption) ?_ | refine br_f (by assumption) ?_ | refine br_nt (by assumption) ?_ | refine br_nf (by assumption) ?_ | refine ⟨by assumption, ?_⟩); (conv => whnf))); exact ⟨rfl, h⟩)
  · ((conv => whnf); (repeat ((first | refine br_t (by decide) ?_ | refine br_f (by decide) ?_ | refine br_nt (by decide) ?_ | refine br_nf (by decide) ?_ | refine ⟨_, rfl, ?_⟩ | refine br_t (by with_reducible assumption) ?_ | refine br_f (by with_reducible assumption) ?_ | refine br_nt (by with_reducible assumption) ?_ | refine br_nf (by with_reducible assumption) ?_ | refine ⟨by with_reducible assumption, ?_⟩ | refine ⟨Or.inl rfl, ?_⟩ | refine br_t (by assumption) ?_ | refine br_f (by assumption) ?_ | refine br_nt (by assumption) ?_ | refine br_nf (by assumption) ?_ | refine ⟨by assumption, ?_⟩); (conv => whnf))); exact ⟨rfl, h⟩)
  · ((conv => whnf); (repeat ((first | refine br_t (by decide) ?_ | refine br_f (by decide) ?_ | refine br_nt (by decide) ?_ | refine br_nf (by decide) ?_ | refine ⟨_, rfl, ?_⟩ | refine br_t (by with_reducible assumption) ?_ | refine br_f (by with_reducible assumption) ?_ | refine br_nt (by with_reducible assumption) ?_ | refine br_nf (by with_reducible assumption) ?_ | refine ⟨by with_reducible assumption, ?_⟩ | refine ⟨Or.inl rfl, ?_⟩ | refine br_t (by assumption) ?_ | refine br_f (by assumption) ?_ | refine br_nt (by assumption) ?_ | refine br_nf (by assumption) ?_ | refine ⟨by assumption, ?_⟩); (conv => whnf))); exact ⟨rfl, h⟩)
