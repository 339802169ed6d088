theorem lo_is (a b : Int32) : lwI Inv T_X7_is T_X8_is [.int a, .int b] := by
  intro w h
  obtain ⟨N, Pn, E, H, hF, hT, hS⟩ := id h
  obtain ⟨hN, hP, hE, e10, e88, e9, e82, e11, e820, -⟩ := H.1
  rcases arg_c (a := a) (by omega) e10 e88 with ⟨n, hn, ea, k1, k2, k3⟩ | ⟨k1, k3⟩ | ⟨k1, k2, k3⟩
  · have hv : vp_in a 64 := i_in 64 ea (by omega) (by decide)
    have c1 := nI_ml ea (x := 1) (i := 1) rfl (nI_lit 10)
    have v1 : vp_in (a * 10 + 1) 640 := i_in 640 c1 (by omega) (by decide)
    have ka : a.toNatClampNeg = n := i_c ea (by omega)
    rcases arg_k (a := b) 10 (by omega) with ⟨j, hj, eb, m1, m2, m3⟩ | ⟨m1, m3⟩ | ⟨m1, m2, m3⟩
    · conv => whnf
      (repeat ((first | refine br_t (by decide) ?_ | refine br_f (by decide) ?_ | refine br_nt (by decide) ?_ | refine br_nf (by decide) ?_ | refine br_t (by assumption) ?_ | refine br_f (by assumption) ?_ | refine br_nt (by assumption) ?_ | refine br_nf (by assumption) ?_ | refine ⟨_, rfl, ?_⟩ | refine ⟨by assumption, ?_⟩); (conv => whnf)))
    · conv => whnf
      (repeat ((first | refine br_t (by decide) ?_ | refine br_f (by decide) ?_ | refine br_nt (by decide) ?_ | refine br_nf (by decide) ?_ | refine br_t (by assumption) ?_ | refine br_f (by assumption) ?_ | refine br_nt (by assumption) ?_ | refine br_nf (by assumption) ?_ | refine ⟨_, rfl, ?_⟩ | refine ⟨by assumption, ?_⟩); (conv => whnf)))
      exact ⟨rfl, h⟩
    · conv => whnf
      (repeat ((first | refine br_t (by decide) ?_ | refine br_f (by decide) ?_ | refine br_nt (by decide) ?_ | refine br_nf (by decide) ?_ | refine br_t (by assumption) ?_ | refine br_f (by assumption) ?_ | refine br_nt (by assumption) ?_ | refine br_nf (by assumption) ?_ | refine ⟨_, rfl, ?_⟩ | refine ⟨by assumption, ?_⟩); (conv => whnf)))
      exact ⟨rfl, h⟩
  · conv => whnf
    (repeat ((first | refine br_t (by decide) ?_ | refine br_f (by decide) ?_ | refine br_nt (by decide) ?_ | refine br_nf (by decide) ?_ | refine br_t (by assumption) ?_ | refine br_f (by assumption) ?_ | refine br_nt (by assumption) ?_ | refine br_nf (by assumption) ?_ | refine ⟨_, rfl, ?_⟩ | refine ⟨by assumption, ?_⟩); (conv => whnf)))
    exact ⟨rfl, h⟩
  · conv => whnf
    (repeat ((first | refine br_t (by decide) ?_ | refine br_f (by decide) ?_ | refine br_nt (by decide) ?_ | refine br_nf (by decide) ?_ | refine br_t (by assumption) ?_ | refine br_f (by assumption) ?_ | refine br_nt (by assumption) ?_ | refine br_nf (by assumption) ?_ | refine ⟨_, rfl, ?_⟩ | refine ⟨by assumption, ?_⟩); (conv => whnf)))
    exact ⟨rfl, h⟩
theorem lo_at (a b : Int32) : lwI Inv T_X7_at T_X8_at_ [.int a, .int b] := by
  intro w h
  obtain ⟨N, Pn, E, H, hF, hT, hS⟩ := id h
  obtain ⟨s, hs, e57, e844, hrow⟩ := id hT
  rcases arg_c (a := a) (by omega) e57 e844 with ⟨n, hn, ea, k1, k2, k3⟩ | ⟨k1, k3⟩ | ⟨k1, k2, k3⟩
  · have hv : vp_in a 300 := i_in 300 ea (by omega) (by decide)
    have ka : a.toNatClampNeg = n := i_c ea (by omega)
    obtain ⟨r1, r2, r3, r4⟩ := hrow n hn
    rcases arg_k (a := b) 3 (by omega) with ⟨j, hj, eb, m1, m2, m3⟩ | ⟨m1, m3⟩ | ⟨m1, m2, m3⟩
    · conv => whnf
      (repeat ((first | refine br_t (by decide) ?_ | refine br_f (by decide) ?_ | refine br_nt (by decide) ?_ | refine br_nf (by decide) ?_ | refine br_t (by assumption) ?_ | refine br_f (by assumption) ?_ | refine br_nt (by assumption) ?_ | refine br_nf (by assumption) ?_ | refine ⟨_, rfl, ?_⟩ | refine ⟨by assumption, ?_⟩); (conv => whnf)))
    · conv => whnf
      (repeat ((first | refine br_t (by decide) ?_ | refine br_f (by decide) ?_ | refine br_nt (by decide) ?_ | refine br_nf (by decide) ?_ | refine br_t (by assumption) ?_ | refine br_f (by assumption) ?_ | refine br_nt (by assumption) ?_ | refine br_nf (by assumption) ?_ | refine ⟨_, rfl, ?_⟩ | refine ⟨by assumption, ?_⟩); (conv => whnf)))
    · conv => whnf
      (repeat ((first | refine br_t (by decide) ?_ | refine br_f (by decide) ?_ | refine br_nt (by decide) ?_ | refine br_nf (by decide) ?_ | refine br_t (by assumption) ?_ | refine br_f (by assumption) ?_ | refine br_nt (by assumption) ?_ | refine br_nf (by assumption) ?_ | refine ⟨_, rfl, ?_⟩ | refine ⟨by assumption, ?_⟩); (conv => whnf)))
  · conv => whnf
    (repeat ((first | refine br_t (by decide) ?_ | refine br_f (by decide) ?_ | refine br_nt (by decide) ?_ | refine br_nf (by decide) ?_ | refine br_t (by assumption) ?_ | refine br_f (by assumption) ?_ | refine br_nt (by assumption) ?_ | refine br_nf (by assumption) ?_ | refine ⟨_, rfl, ?_⟩ | refine ⟨by assumption, ?_⟩); (conv => whnf)))
    exact ⟨rfl, h⟩
  · conv => whnf
    (repeat ((first | refine br_t (by decide) ?_ | refine br_f (by decide) ?_ | refine br_nt (by decide) ?_ | refine br_nf (by decide) ?_ | refine br_t (by assumption) ?_ | refine br_f (by assumption) ?_ | refine br_nt (by assumption) ?_ | refine br_nf (by assumption) ?_ | refine ⟨_, rfl, ?_⟩ | refine ⟨by assumption, ?_⟩); (conv => whnf)))
    exact ⟨rfl, h⟩
theorem lo_holds (a : Int32) : lwI Inv T_X7_holds T_X8_holds [.int a] := by
  intro w h
  obtain ⟨N, Pn, E, H, hF, hT, hS⟩ := id h
  obtain ⟨hN, hP, hE, e10, e88, e9, e82, e11, e820, -⟩ := H.1
  rcases arg_c (a := a) (by omega) e10 e88 with ⟨n, hn, ea, k1, k2, k3⟩ | ⟨k1, k3⟩ | ⟨k1, k2, k3⟩
  · have hv : vp_in a 64 := i_in 64 ea (by omega) (by decide)
    rcases hS.2 with ⟨q1, q2, q3, q4, -⟩ | ⟨t, f, f', q1, q2, q3, -⟩
    · conv => whnf
      (repeat ((first | refine br_t (by decide) ?_ | refine br_f (by decide) ?_ | refine br_nt (by decide) ?_ | refine br_nf (by decide) ?_ | refine br_t (by assumption) ?_ | refine br_f (by assumption) ?_ | refine br_nt (by assumption) ?_ | refine br_nf (by assumption) ?_ | refine ⟨_, rfl, ?_⟩ | refine ⟨by assumption, ?_⟩); (conv => whnf)))
      exact ⟨rfl, h⟩
    · have z1 : ¬ w.1 3 7 = 0 := by rw [q1.2.1]; decide
      have z2 : ¬ w.1 8 27 = 0 := by rw [q2.2.1]; decide
      obtain ⟨b1, b2, b3, b4⟩ := beg_t q1
      obtain ⟨d1, d2, d3, d4, d5⟩ := meg_t q2
      have hd := done_iff q1 q2
      by_cases ht : t = f
      · have ht' := hd.mp ht
        have z3 : w.1 3 6 = w.1 3 5 := by rw [b3, b4, ht]
        have z4 : w.1 8 33 = w.1 8 32 := by rw [d3, d4, ht']
        subst ht
        subst ht'
        conv => whnf
        (repeat ((first | refine br_t (by decide) ?_ | refine br_f (by decide) ?_ | refine br_nt (by decide) ?_ | refine br_nf (by decide) ?_ | refine br_t (by assumption) ?_ | refine br_f (by assumption) ?_ | refine br_nt (by assumption) ?_ | refine br_nf (by assumption) ?_ | refine ⟨_, rfl, ?_⟩ | refine ⟨by assumption, ?_⟩); (conv => whnf)))
      · have z3 : ¬ w.1 3 6 = w.1 3 5 := fun z => ht (nI_inj (by omega) (by omega) (b3.symm.trans (z.trans b4)))
        have z4 : ¬ w.1 8 33 = w.1 8 32 := fun z => ht (hd.mpr (nI_inj (by omega) (by omega) (d3.symm.trans (z.trans d4))))
        conv => whnf
        (repeat ((first | refine br_t (by decide) ?_ | refine br_f (by decide) ?_ | refine br_nt (by decide) ?_ | refine br_nf (by decide) ?_ | refine br_t (by assumption) ?_ | refine br_f (by assumption) ?_ | refine br_nt (by assumption) ?_ | refine br_nf (by assumption) ?_ | refine ⟨_, rfl, ?_⟩ | refine ⟨by assumption, ?_⟩); (conv => whnf)))
        exact ⟨rfl, h⟩
  · conv => whnf
    (repeat ((first | refine br_t (by decide) ?_ | refine br_f (by decide) ?_ | refine br_nt (by decide) ?_ | refine br_nf (by decide) ?_ | refine br_t (by assumption) ?_ | refine br_f (by assumption) ?_ | refine br_nt (by assumption) ?_ | refine br_nf (by assumption) ?_ | refine ⟨_, rfl, ?_⟩ | refine ⟨by assumption, ?_⟩); (conv => whnf)))
    exact ⟨rfl, h⟩
  · conv => whnf
    (repeat ((first | refine br_t (by decide) ?_ | refine br_f (by decide) ?_ | refine br_nt (by decide) ?_ | refine br_nf (by decide) ?_ | refine br_t (by assumption) ?_ | refine br_f (by assumption) ?_ | refine br_nt (by assumption) ?_ | refine br_nf (by assumption) ?_ | refine ⟨_, rfl, ?_⟩ | refine ⟨by assumption, ?_⟩); (conv => whnf)))
    exact ⟨rfl, h⟩
