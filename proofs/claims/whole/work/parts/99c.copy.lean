set_option maxHeartbeats 16000000 in
theorem lo_copy (a b c d e : Int32) : lwI Inv T_X7_copy T_X8_copy [.int a, .int b, .int c, .int d, .int e] := by
  intro w h
  obtain ⟨N, Pn, E, H, hF, hT, hS⟩ := id h
  obtain ⟨hN, hP, hE, e10, e88, e9, e82, e11, e820, -⟩ := H.1
  rcases arg_c (a := a) (by omega) e10 e88 with ⟨n, hn, ea, k1, k2, k3⟩ | ⟨k1, k3⟩ | ⟨k1, k2, k3⟩
  · have hv : vp_in a 64 := i_in 64 ea (by omega) (by decide)
    rcases arg_c (a := c) (by omega) e10 e88 with ⟨m, hm, ec, m1, m2, m3⟩ | ⟨m1, m3⟩ | ⟨m1, m2, m3⟩
    · have hv2 : vp_in c 64 := i_in 64 ec (by omega) (by decide)
      have ka : a.toNatClampNeg = n := i_c ea (by omega)
      have kc : c.toNatClampNeg = m := i_c ec (by omega)
      have c0 := nI_ml ea (x := 0) (i := 0) rfl (nI_lit 10)
      have c1 := nI_ml ea (x := 1) (i := 1) rfl (nI_lit 10)
      have c8 := nI_ml ea (x := 8) (i := 8) rfl (nI_lit 10)
      have d0 := nI_ml ec (x := 0) (i := 0) rfl (nI_lit 10)
      have d1 := nI_ml ec (x := 1) (i := 1) rfl (nI_lit 10)
      have d8 := nI_ml ec (x := 8) (i := 8) rfl (nI_lit 10)
      have v0 : vp_in (a * 10 + 0) 640 := i_in 640 c0 (by omega) (by decide)
      have v1 : vp_in (a * 10 + 1) 640 := i_in 640 c1 (by omega) (by decide)
      have v8 : vp_in (a * 10 + 8) 640 := i_in 640 c8 (by omega) (by decide)
      have w0 : vp_in (c * 10 + 0) 640 := i_in 640 d0 (by omega) (by decide)
      have w1 : vp_in (c * 10 + 1) 640 := i_in 640 d1 (by omega) (by decide)
      have w8 : vp_in (c * 10 + 8) 640 := i_in 640 d8 (by omega) (by decide)
      have s0 : w.1 13 (a * 10 + 0).toNatClampNeg = cX w n 0 := by rw [i_c c0 (by omega)]
      have s1 : w.1 13 (a * 10 + 1).toNatClampNeg = cX w n 1 := by rw [i_c c1 (by omega)]
      have s8 : w.1 13 (a * 10 + 8).toNatClampNeg = cX w n 8 := by rw [i_c c8 (by omega)]
      have r0 : w.1 13 (c * 10 + 0).toNatClampNeg = cX w m 0 := by rw [i_c d0 (by omega)]
      have r1 : w.1 13 (c * 10 + 1).toNatClampNeg = cX w m 1 := by rw [i_c d1 (by omega)]
      have r8 : w.1 13 (c * 10 + 8).toNatClampNeg = cX w m 8 := by rw [i_c d8 (by omega)]
      have t0 : w.1 42 a.toNatClampNeg = cX w n 0 := by rw [ka, (iP_tell H hn).1]
      have t1 : w.1 43 a.toNatClampNeg = cX w n 1 := by rw [ka, (iP_tell H hn).2.1]
      have t8 : w.1 50 a.toNatClampNeg = cX w n 8 := by rw [ka, (iP_tell H hn).2.2.2.2.2.2.2.2.1]
      have u0 : w.1 42 c.toNatClampNeg = cX w m 0 := by rw [kc, (iP_tell H hm).1]
      have u1 : w.1 43 c.toNatClampNeg = cX w m 1 := by rw [kc, (iP_tell H hm).2.1]
      have u8 : w.1 50 c.toNatClampNeg = cX w m 8 := by rw [kc, (iP_tell H hm).2.2.2.2.2.2.2.2.1]
      by_cases g0 : cX w n 0 = cX w m 0
      · have x0 : w.1 13 (a * 10 + 0).toNatClampNeg = w.1 13 (c * 10 + 0).toNatClampNeg := by rw [s0, r0, g0]
        have y0 : w.1 42 a.toNatClampNeg = w.1 42 c.toNatClampNeg := by rw [t0, u0, g0]
        have f3 := vk3
        by_cases g9 : cX w n 1 = 9
        · have x9 : w.1 13 (a * 10 + 1).toNatClampNeg = 9 := s1.trans g9
          have y9 : w.1 43 a.toNatClampNeg = 9 := t1.trans g9
          by_cases l9 : cX w m 1 = 9
          · have z9 : w.1 13 (c * 10 + 1).toNatClampNeg = 9 := r1.trans l9
            have j9 : w.1 43 c.toNatClampNeg = 9 := u1.trans l9
            conv => whnf
            (repeat ((first | refine br_t (by decide) ?_ | refine br_f (by decide) ?_ | refine br_nt (by decide) ?_ | refine br_nf (by decide) ?_ | refine br_t (by assumption) ?_ | refine br_f (by assumption) ?_ | refine br_nt (by assumption) ?_ | refine br_nf (by assumption) ?_ | refine ⟨_, rfl, ?_⟩ | refine ⟨Or.inl rfl, ?_⟩ | refine ⟨by assumption, ?_⟩); (conv => whnf)))
          · have z9 : ¬ w.1 13 (c * 10 + 1).toNatClampNeg = 9 := fun z => l9 (r1.symm.trans z)
            have j9 : ¬ w.1 43 c.toNatClampNeg = 9 := fun z => l9 (u1.symm.trans z)
            conv => whnf
            (repeat ((first | refine br_t (by decide) ?_ | refine br_f (by decide) ?_ | refine br_nt (by decide) ?_ | refine br_nf (by decide) ?_ | refine br_t (by assumption) ?_ | refine br_f (by assumption) ?_ | refine br_nt (by assumption) ?_ | refine br_nf (by assumption) ?_ | refine ⟨_, rfl, ?_⟩ | refine ⟨Or.inl rfl, ?_⟩ | refine ⟨by assumption, ?_⟩); (conv => whnf)))
            exact ⟨rfl, Inv_fnd h 3 (by decide)⟩
        · have x9 : ¬ w.1 13 (a * 10 + 1).toNatClampNeg = 9 := fun z => g9 (s1.symm.trans z)
          have y9 : ¬ w.1 43 a.toNatClampNeg = 9 := fun z => g9 (t1.symm.trans z)
          conv => whnf
          (repeat ((first | refine br_t (by decide) ?_ | refine br_f (by decide) ?_ | refine br_nt (by decide) ?_ | refine br_nf (by decide) ?_ | refine br_t (by assumption) ?_ | refine br_f (by assumption) ?_ | refine br_nt (by assumption) ?_ | refine br_nf (by assumption) ?_ | refine ⟨_, rfl, ?_⟩ | refine ⟨Or.inl rfl, ?_⟩ | refine ⟨by assumption, ?_⟩); (conv => whnf)))
          exact ⟨rfl, Inv_fnd h 3 (by decide)⟩
      · have x0 : ¬ w.1 13 (a * 10 + 0).toNatClampNeg = w.1 13 (c * 10 + 0).toNatClampNeg := fun z => g0 (s0.symm.trans (z.trans r0))
        have y0 : ¬ w.1 42 a.toNatClampNeg = w.1 42 c.toNatClampNeg := fun z => g0 (t0.symm.trans (z.trans u0))
        ((conv => whnf); (repeat ((first | refine br_t (by decide) ?_ | refine br_f (by decide) ?_ | refine br_nt (by decide) ?_ | refine br_nf (by decide) ?_ | refine br_t (by assumption) ?_ | refine br_f (by assumption) ?_ | refine br_nt (by assumption) ?_ | refine br_nf (by assumption) ?_ | refine ⟨_, rfl, ?_⟩ | refine ⟨by assumption, ?_⟩); (conv => whnf))); exact ⟨rfl, h⟩)
    · ((conv => whnf); (repeat ((first | refine br_t (by decide) ?_ | refine br_f (by decide) ?_ | refine br_nt (by decide) ?_ | refine br_nf (by decide) ?_ | refine br_t (by assumption) ?_ | refine br_f (by assumption) ?_ | refine br_nt (by assumption) ?_ | refine br_nf (by assumption) ?_ | refine ⟨_, rfl, ?_⟩ | refine ⟨by assumption, ?_⟩); (conv => whnf))); exact ⟨rfl, h⟩)
    · ((conv => whnf); (repeat ((first | refine br_t (by decide) ?_ | refine br_f (by decide) ?_ | refine br_nt (by decide) ?_ | refine br_nf (by decide) ?_ | refine br_t (by assumption) ?_ | refine br_f (by assumption) ?_ | refine br_nt (by assumption) ?_ | refine br_nf (by assumption) ?_ | refine ⟨_, rfl, ?_⟩ | refine ⟨by assumption, ?_⟩); (conv => whnf))); exact ⟨rfl, h⟩)
  · ((conv => whnf); (repeat ((first | refine br_t (by decide) ?_ | refine br_f (by decide) ?_ | refine br_nt (by decide) ?_ | refine br_nf (by decide) ?_ | refine br_t (by assumption) ?_ | refine br_f (by assumption) ?_ | refine br_nt (by assumption) ?_ | refine br_nf (by assumption) ?_ | refine ⟨_, rfl, ?_⟩ | refine ⟨by assumption, ?_⟩); (conv => whnf))); exact ⟨rfl, h⟩)
  · ((conv => whnf); (repeat ((first | refine br_t (by decide) ?_ | refine br_f (by decide) ?_ | refine br_nt (by decide) ?_ | refine br_nf (by decide) ?_ | refine br_t (by assumption) ?_ | refine br_f (by assumption) ?_ | refine br_nt (by assumption) ?_ | refine br_nf (by assumption) ?_ | refine ⟨_, rfl, ?_⟩ | refine ⟨by assumption, ?_⟩); (conv => whnf))); exact ⟨rfl, h⟩)
