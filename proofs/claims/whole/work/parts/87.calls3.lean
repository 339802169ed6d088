theorem sol_c {w : qq_w} {N Pn : Nat} (hS : iSol w N Pn) : (w.1 3 7 = 0 ∧ w.1 8 27 = 0) ∨ (¬ w.1 3 7 = 0 ∧ ¬ w.1 8 27 = 0 ∧ ¬ w.1 3 6 = w.1 3 5 ∧ ¬ w.1 8 33 = w.1 8 32) ∨ ∃ t, ¬ w.1 3 7 = 0 ∧ ¬ w.1 8 27 = 0 ∧ w.1 3 6 = w.1 3 5 ∧ w.1 8 33 = w.1 8 32 ∧ cBeg w N Pn t t ∧ mBeg w N Pn t t ∧ w.1 3 5 = nI t ∧ w.1 8 34 = nI t := by
  rcases hS.2 with ⟨q1, q2, q3, q4, -⟩ | ⟨t, f, f', q1, q2, q3, -⟩
  · exact Or.inl ⟨q1, q2⟩
  · have z1 : ¬ w.1 3 7 = 0 := by rw [q1.2.1]; decide
    have z2 : ¬ w.1 8 27 = 0 := by rw [q2.2.1]; decide
    obtain ⟨b1, b2, b3, b4⟩ := beg_t q1
    obtain ⟨d1, d2, d3, d4, d5⟩ := meg_t q2
    have hd := done_iff q1 q2
    by_cases ht : t = f
    · have ht' := hd.mp ht
      subst ht
      subst ht'
      exact Or.inr (Or.inr ⟨t, z1, z2, by rw [b3, b4], by rw [d3, d4], q1, q2, b4, d5⟩)
    · exact Or.inr (Or.inl ⟨z1, z2, fun z => ht (nI_inj (by omega) (by omega) (b3.symm.trans (z.trans b4))), fun z => ht (hd.mpr (nI_inj (by omega) (by omega) (d3.symm.trans (z.trans d4))))⟩)
theorem qq_or_cg {f g : Nat → Int32} {b : Nat} : ∀ n, (∀ i, i < n → f (b + i) = g (b + i)) → qq_or f b n = qq_or g b n
  | 0, _ => rfl
  | n + 1, h => by
    show qq_or f b n ||| f (b + n) = qq_or g b n ||| g (b + n)
    rw [qq_or_cg n (fun i hi => h i (by omega)), h n (by omega)]
theorem hold_eq {w : qq_w} {N Pn t n : Nat} (hc : cBeg w N Pn t t) (hm : mBeg w N Pn t t) (hn : n < 64) : qq_or (w.1 56) (13 * n) 13 = qq_or (w.1 20) (13 * n) 13 := qq_or_cg 13 (fun i hi => (rows_eq hc hm (by omega)).symm)
theorem lo_holds (a : Int32) : lwI Inv T_X7_holds T_X8_holds [.int a] := by
  intro w h
  obtain ⟨N, Pn, E, H, hF, hT, hS⟩ := id h
  obtain ⟨hN, hP, hE, e10, e88, e9, e82, e11, e820, -⟩ := H.1
  rcases arg_c (a := a) (by omega) e10 e88 with ⟨n, hn, ea, k1, k2, k3⟩ | ⟨k1, k3⟩ | ⟨k1, k2, k3⟩
  · have hv : vp_in a 64 := i_in 64 ea (by omega) (by decide)
    rcases sol_c hS with ⟨z1, z2⟩ | ⟨z1, z2, z3, z4⟩ | ⟨t, z1, z2, z3, z4, q1, q2, -⟩
    · conv => whnf
      (repeat ((first | refine br_t (by decide) ?_ | refine br_f (by decide) ?_ | refine br_nt (by decide) ?_ | refine br_nf (by decide) ?_ | refine br_t (by assumption) ?_ | refine br_f (by assumption) ?_ | refine br_nt (by assumption) ?_ | refine br_nf (by assumption) ?_ | refine ⟨_, rfl, ?_⟩ | refine ⟨by assumption, ?_⟩); (conv => whnf)))
      exact ⟨rfl, h⟩
    · conv => whnf
      (repeat ((first | refine br_t (by decide) ?_ | refine br_f (by decide) ?_ | refine br_nt (by decide) ?_ | refine br_nf (by decide) ?_ | refine br_t (by assumption) ?_ | refine br_f (by assumption) ?_ | refine br_nt (by assumption) ?_ | refine br_nf (by assumption) ?_ | refine ⟨_, rfl, ?_⟩ | refine ⟨by assumption, ?_⟩); (conv => whnf)))
      exact ⟨rfl, h⟩
    · conv => whnf
      (repeat ((first | refine br_t (by decide) ?_ | refine br_f (by decide) ?_ | refine br_nt (by decide) ?_ | refine br_nf (by decide) ?_ | refine br_t (by assumption) ?_ | refine br_f (by assumption) ?_ | refine br_nt (by assumption) ?_ | refine br_nf (by assumption) ?_ | refine ⟨_, rfl, ?_⟩ | refine ⟨by assumption, ?_⟩); (conv => whnf)))
      exact ⟨by rw [hold_eq q1 q2 (by rw [ea, qn_nI (by omega)]; omega)], h⟩
  · conv => whnf
    (repeat ((first | refine br_t (by decide) ?_ | refine br_f (by decide) ?_ | refine br_nt (by decide) ?_ | refine br_nf (by decide) ?_ | refine br_t (by assumption) ?_ | refine br_f (by assumption) ?_ | refine br_nt (by assumption) ?_ | refine br_nf (by assumption) ?_ | refine ⟨_, rfl, ?_⟩ | refine ⟨by assumption, ?_⟩); (conv => whnf)))
    exact ⟨rfl, h⟩
  · conv => whnf
    (repeat ((first | refine br_t (by decide) ?_ | refine br_f (by decide) ?_ | refine br_nt (by decide) ?_ | refine br_nf (by decide) ?_ | refine br_t (by assumption) ?_ | refine br_f (by assumption) ?_ | refine br_nt (by assumption) ?_ | refine br_nf (by assumption) ?_ | refine ⟨_, rfl, ?_⟩ | refine ⟨by assumption, ?_⟩); (conv => whnf)))
    exact ⟨rfl, h⟩
theorem lo_from (a b : Int32) : lwI Inv T_X7_from T_X8_from [.int a, .int b] := by
  intro w h
  obtain ⟨N, Pn, E, H, hF, hT, hS⟩ := id h
  obtain ⟨hN, hP, hE, e10, e88, e9, e82, e11, e820, -⟩ := H.1
  rcases arg_c (a := a) (by omega) e10 e88 with ⟨n, hn, ea, k1, k2, k3⟩ | ⟨k1, k3⟩ | ⟨k1, k2, k3⟩
  · have hv : vp_in a 64 := i_in 64 ea (by omega) (by decide)
    rcases arg_k (a := b) 12 (by omega) with ⟨j, hj, eb, m1, m2, m3⟩ | ⟨m1, m3⟩ | ⟨m1, m2, m3⟩
    · have c1 := nI_ml ea eb (nI_lit 13)
      have v1 : vp_in (a * 13 + b) 832 := i_in 832 c1 (by omega) (by decide)
      have c2 := nI_mr ea eb (nI_lit 13)
      have v2 : vp_in (13 * a + b) 832 := i_in 832 c2 (by omega) (by decide)
      rcases sol_c hS with ⟨z1, z2⟩ | ⟨z1, z2, z3, z4⟩ | ⟨t, z1, z2, z3, z4, q1, q2, -⟩
      · conv => whnf
        (repeat ((first | refine br_t (by decide) ?_ | refine br_f (by decide) ?_ | refine br_nt (by decide) ?_ | refine br_nf (by decide) ?_ | refine br_t (by assumption) ?_ | refine br_f (by assumption) ?_ | refine br_nt (by assumption) ?_ | refine br_nf (by assumption) ?_ | refine ⟨_, rfl, ?_⟩ | refine ⟨by assumption, ?_⟩); (conv => whnf)))
        exact ⟨rfl, h⟩
      · conv => whnf
        (repeat ((first | refine br_t (by decide) ?_ | refine br_f (by decide) ?_ | refine br_nt (by decide) ?_ | refine br_nf (by decide) ?_ | refine br_t (by assumption) ?_ | refine br_f (by assumption) ?_ | refine br_nt (by assumption) ?_ | refine br_nf (by assumption) ?_ | refine ⟨_, rfl, ?_⟩ | refine ⟨by assumption, ?_⟩); (conv => whnf)))
        exact ⟨rfl, h⟩
      · conv => whnf
        (repeat ((first | refine br_t (by decide) ?_ | refine br_f (by decide) ?_ | refine br_nt (by decide) ?_ | refine br_nf (by decide) ?_ | refine br_t (by assumption) ?_ | refine br_f (by assumption) ?_ | refine br_nt (by assumption) ?_ | refine br_nf (by assumption) ?_ | refine ⟨_, rfl, ?_⟩ | refine ⟨by assumption, ?_⟩); (conv => whnf)))
        refine ⟨?_, h⟩
        show some (Value.int (w.1 56 (13 * a + b).toNatClampNeg)) = some (Value.int (w.1 20 (a * 13 + b).toNatClampNeg))
        rw [i_c c1 (by omega), i_c c2 (by omega), rows_eq q1 q2 (by omega)]
    · conv => whnf
      (repeat ((first | refine br_t (by decide) ?_ | refine br_f (by decide) ?_ | refine br_nt (by decide) ?_ | refine br_nf (by decide) ?_ | refine br_t (by assumption) ?_ | refine br_f (by assumption) ?_ | refine br_nt (by assumption) ?_ | refine br_nf (by assumption) ?_ | refine ⟨_, rfl, ?_⟩ | refine ⟨by assumption, ?_⟩); (conv => whnf)))
      exact ⟨rfl, h⟩
    · conv => whnf
      (repeat ((first | refine br_t (by decide) ?_ | refine br_f (by decide) ?_ | refine br_nt (by decide) ?_ | refine br_nf (by decide) ?_ | refine br_t (by assumption) ?_ | refine br_f (by assumption) ?_ | refine br_nt (by assumption) ?_ | refine br_nf (by assumption) ?_ | refine ⟨_, rfl, ?_⟩ | refine ⟨by assumption, ?_⟩); (conv => whnf)))
      exact ⟨rfl, h⟩
  · conv => whnf
    (repeat ((first | refine br_t (by decide) ?_ | refine br_f (by decide) ?_ | refine br_nt (by decide) ?_ | refine br_nf (by decide) ?_ | refine br_t (by assumption) ?_ | refine br_f (by assumption) ?_ | refine br_nt (by assumption) ?_ | refine br_nf (by assumption) ?_ | refine ⟨_, rfl, ?_⟩ | refine ⟨by assumption, ?_⟩); (conv => whnf)))
    exact ⟨rfl, h⟩
  · conv => whnf
    (repeat ((first | refine br_t (by decide) ?_ | refine br_f (by decide) ?_ | refine br_nt (by decide) ?_ | refine br_nf (by decide) ?_ | refine br_t (by assumption) ?_ | refine br_f (by assumption) ?_ | refine br_nt (by assumption) ?_ | refine br_nf (by assumption) ?_ | refine ⟨_, rfl, ?_⟩ | refine ⟨by assumption, ?_⟩); (conv => whnf)))
    exact ⟨rfl, h⟩
theorem lo_at (a b : Int32) : lwI Inv T_X7_at T_X8_at_ [.int a, .int b] := by
  intro w h
  obtain ⟨N, Pn, E, H, hF, hT, hS⟩ := id h
  obtain ⟨s, hs, e57, e844, hrow⟩ := id hT
  rcases arg_c (a := a) (by omega) e57 e844 with ⟨n, hn, ea, k1, k2, k3⟩ | ⟨k1, k3⟩ | ⟨k1, k2, k3⟩
  · have hv : vp_in a 300 := i_in 300 ea (by omega) (by decide)
    have ka : a.toNatClampNeg = n := i_c ea (by omega)
    obtain ⟨r1, r2, r3, r4⟩ := hrow n hn
    have bad : ¬ (0 ≤ b ∧ b ≤ nI 3) → (¬ b.toInt = 0 ∧ ¬ b.toInt = 1 ∧ ¬ b.toInt = 2 ∧ ¬ b.toInt = 3) := by
      intro z
      have e0 : (0 : Int32).toInt = 0 := by decide
      have e3 : (nI 3).toInt = 3 := by decide
      rw [i_le, i_le, e0, e3] at z
      omega
    rcases arg_k (a := b) 3 (by omega) with ⟨j, hj, rfl, m1, m2, m3⟩ | ⟨m1, m3⟩ | ⟨m1, m2, m3⟩
    · rcases (show j = 0 ∨ j = 1 ∨ j = 2 ∨ j = 3 by omega) with rfl | rfl | rfl | rfl
      · conv => whnf
        (repeat ((first | refine br_t (by decide) ?_ | refine br_f (by decide) ?_ | refine br_nt (by decide) ?_ | refine br_nf (by decide) ?_ | refine br_t (by assumption) ?_ | refine br_f (by assumption) ?_ | refine br_nt (by assumption) ?_ | refine br_nf (by assumption) ?_ | refine ⟨_, rfl, ?_⟩ | refine ⟨by assumption, ?_⟩); (conv => whnf)))
        refine ⟨?_, h⟩
        show some (Value.int (w.1 61 a.toNatClampNeg)) = some (Value.int (w.1 25 a.toNatClampNeg))
        rw [ka, r1]
      · conv => whnf
        (repeat ((first | refine br_t (by decide) ?_ | refine br_f (by decide) ?_ | refine br_nt (by decide) ?_ | refine br_nf (by decide) ?_ | refine br_t (by assumption) ?_ | refine br_f (by assumption) ?_ | refine br_nt (by assumption) ?_ | refine br_nf (by assumption) ?_ | refine ⟨_, rfl, ?_⟩ | refine ⟨by assumption, ?_⟩); (conv => whnf)))
        refine ⟨?_, h⟩
        show some (Value.int (w.1 62 a.toNatClampNeg)) = some (Value.int (w.1 26 a.toNatClampNeg))
        rw [ka, r2]
      · conv => whnf
        (repeat ((first | refine br_t (by decide) ?_ | refine br_f (by decide) ?_ | refine br_nt (by decide) ?_ | refine br_nf (by decide) ?_ | refine br_t (by assumption) ?_ | refine br_f (by assumption) ?_ | refine br_nt (by assumption) ?_ | refine br_nf (by assumption) ?_ | refine ⟨_, rfl, ?_⟩ | refine ⟨by assumption, ?_⟩); (conv => whnf)))
        refine ⟨?_, h⟩
        show some (Value.int (w.1 63 a.toNatClampNeg)) = some (Value.int (w.1 27 a.toNatClampNeg))
        rw [ka, r3]
      · conv => whnf
        (repeat ((first | refine br_t (by decide) ?_ | refine br_f (by decide) ?_ | refine br_nt (by decide) ?_ | refine br_nf (by decide) ?_ | refine br_t (by assumption) ?_ | refine br_f (by assumption) ?_ | refine br_nt (by assumption) ?_ | refine br_nf (by assumption) ?_ | refine ⟨_, rfl, ?_⟩ | refine ⟨by assumption, ?_⟩); (conv => whnf)))
        refine ⟨?_, h⟩
        show some (Value.int (w.1 64 a.toNatClampNeg)) = some (Value.int (w.1 28 a.toNatClampNeg))
        rw [ka, r4]
    · obtain ⟨y0, y1, y2, y3⟩ := bad m3
      conv => whnf
      (repeat ((first | refine br_t (by decide) ?_ | refine br_f (by decide) ?_ | refine br_nt (by decide) ?_ | refine br_nf (by decide) ?_ | refine br_t (by assumption) ?_ | refine br_f (by assumption) ?_ | refine br_nt (by assumption) ?_ | refine br_nf (by assumption) ?_ | refine ⟨_, rfl, ?_⟩ | refine ⟨by assumption, ?_⟩); (conv => whnf)))
      exact ⟨rfl, h⟩
    · obtain ⟨y0, y1, y2, y3⟩ := bad m3
      conv => whnf
      (repeat ((first | refine br_t (by decide) ?_ | refine br_f (by decide) ?_ | refine br_nt (by decide) ?_ | refine br_nf (by decide) ?_ | refine br_t (by assumption) ?_ | refine br_f (by assumption) ?_ | refine br_nt (by assumption) ?_ | refine br_nf (by assumption) ?_ | refine ⟨_, rfl, ?_⟩ | refine ⟨by assumption, ?_⟩); (conv => whnf)))
      exact ⟨rfl, h⟩
  · conv => whnf
    (repeat ((first | refine br_t (by decide) ?_ | refine br_f (by decide) ?_ | refine br_nt (by decide) ?_ | refine br_nf (by decide) ?_ | refine br_t (by assumption) ?_ | refine br_f (by assumption) ?_ | refine br_nt (by assumption) ?_ | refine br_nf (by assumption) ?_ | refine ⟨_, rfl, ?_⟩ | refine ⟨by assumption, ?_⟩); (conv => whnf)))
    exact ⟨rfl, h⟩
  · conv => whnf
    (repeat ((first | refine br_t (by decide) ?_ | refine br_f (by decide) ?_ | refine br_nt (by decide) ?_ | refine br_nf (by decide) ?_ | refine br_t (by assumption) ?_ | refine br_f (by assumption) ?_ | refine br_nt (by assumption) ?_ | refine br_nf (by assumption) ?_ | refine ⟨_, rfl, ?_⟩ | refine ⟨by assumption, ?_⟩); (conv => whnf)))
    exact ⟨rfl, h⟩
theorem lo_is (a b : Int32) : lwI Inv T_X7_is T_X8_is [.int a, .int b] := by
  intro w h
  obtain ⟨N, Pn, E, H, hF, hT, hS⟩ := id h
  obtain ⟨hN, hP, hE, e10, e88, e9, e82, e11, e820, -⟩ := H.1
  rcases arg_c (a := a) (by omega) e10 e88 with ⟨n, hn, ea, k1, k2, k3⟩ | ⟨k1, k3⟩ | ⟨k1, k2, k3⟩
  · have hv : vp_in a 64 := i_in 64 ea (by omega) (by decide)
    have c1 := nI_ml ea (x := 1) (i := 1) rfl (nI_lit 10)
    have v1 : vp_in (a * 10 + 1) 640 := i_in 640 c1 (by omega) (by decide)
    have ka : a.toNatClampNeg = n := i_c ea (by omega)
    have q1 : w.1 13 (a * 10 + 1).toNatClampNeg = cX w n 1 := by rw [i_c c1 (by omega)]
    obtain ⟨p, k, hp, hk, -, ek, -⟩ := iP_kind H hn
    have vk : vp_in (w.1 13 (a * 10 + 1).toNatClampNeg) 11 := by
      rw [q1]
      exact i_in 11 ek hk (by decide)
    have t1 : w.1 43 a.toNatClampNeg = cX w n 1 := by rw [ka, (iP_tell H hn).2.1]
    rcases arg_k (a := b) 10 (by omega) with ⟨j, hj, eb, m1, m2, m3⟩ | ⟨m1, m3⟩ | ⟨m1, m2, m3⟩
    · have vb : vp_in b 11 := i_in 11 eb (by omega) (by decide)
      by_cases hu : qq_under (qn (w.1 13 (a * 10 + 1).toNatClampNeg)) b
      · conv => whnf
        (repeat ((first | refine br_t (by decide) ?_ | refine br_f (by decide) ?_ | refine br_nt (by decide) ?_ | refine br_nf (by decide) ?_ | refine br_t (by assumption) ?_ | refine br_f (by assumption) ?_ | refine br_nt (by assumption) ?_ | refine br_nf (by assumption) ?_ | refine ⟨_, rfl, ?_⟩ | refine ⟨by assumption, ?_⟩); (conv => whnf)))
        refine ⟨rfl, rfl, b, w.1 43 a.toNatClampNeg, ⟨rfl, rfl, rfl, trivial⟩, by rw [t1, ← q1]; exact vk, vb, fun _ => ⟨rfl, h⟩, fun z => absurd ?_ z⟩
        rw [t1, ← q1]
        exact hu
      · conv => whnf
        (repeat ((first | refine br_t (by decide) ?_ | refine br_f (by decide) ?_ | refine br_nt (by decide) ?_ | refine br_nf (by decide) ?_ | refine br_t (by assumption) ?_ | refine br_f (by assumption) ?_ | refine br_nt (by assumption) ?_ | refine br_nf (by assumption) ?_ | refine ⟨_, rfl, ?_⟩ | refine ⟨by assumption, ?_⟩); (conv => whnf)))
        refine ⟨rfl, rfl, b, w.1 43 a.toNatClampNeg, ⟨rfl, rfl, rfl, trivial⟩, by rw [t1, ← q1]; exact vk, vb, fun z => absurd ?_ hu, fun _ => ⟨rfl, h⟩⟩
        rw [t1, ← q1] at z
        exact z
    · conv => whnf
      (repeat ((first | refine br_t (by decide) ?_ | refine br_f (by decide) ?_ | refine br_nt (by decide) ?_ | refine br_nf (by decide) ?_ | refine br_t (by assumption) ?_ | refine br_f (by assumption) ?_ | refine br_nt (by assumption) ?_ | refine br_nf (by assumption) ?_ | refine ⟨_, rfl, ?_⟩ | refine ⟨by assumption, ?_⟩); (conv => whnf)))
      exact ⟨rfl, h⟩
    · conv => whnf
      (repeat ((first | refine br_t (by decide) ?_ | refine br_f (by decide) ?_ | refine br_nt (by decide) ?_ | refine br_nf (by decide) ?_ | refine br_t (by assumption) ?_ | refine br_f (by assumption) ?_ | refine br_nt (by assumption) ?_ | refine br_nf (by assumption) ?_ | refine ⟨_, rfl, ?_⟩ | refine ⟨by assumption, ?_⟩); (conv => whnf)))
      exact ⟨rfl, h⟩
  · conv => whnf
    (repeat ((first | refine br_t (by decide) ?_ | refine br_f (by decide) ?_ | refine br_nt (by decide) ?_ | refine br_nf (by decide) ?_ | refine br_t (by assumption) ?_ | refine br_f (by assumption) ?_ | refine br_nt (by assumption) ?_ | refine br_nf (by assumption) ?_ | refine ⟨_, rfl, ?_⟩ | refine ⟨by assumption, ?_⟩); (conv => whnf)))
    exact ⟨rfl, h⟩
  · conv => whnf
    (repeat ((first | refine br_t (by decide) ?_ | refine br_f (by decide) ?_ | refine br_nt (by decide) ?_ | refine br_nf (by decide) ?_ | refine br_t (by assumption) ?_ | refine br_f (by assumption) ?_ | refine br_nt (by assumption) ?_ | refine br_nf (by assumption) ?_ | refine ⟨_, rfl, ?_⟩ | refine ⟨by assumption, ?_⟩); (conv => whnf)))
    exact ⟨rfl, h⟩
