theorem arg_k {a : Int32} (N : Nat) (hN : N ≤ 90000) : (∃ n, n < N + 1 ∧ a = nI n ∧ ¬ a < 0 ∧ ¬ nI (N + 1) ≤ a ∧ (0 ≤ a ∧ a ≤ nI N)) ∨ (a < 0 ∧ ¬ (0 ≤ a ∧ a ≤ nI N)) ∨ (¬ a < 0 ∧ nI (N + 1) ≤ a ∧ ¬ (0 ≤ a ∧ a ≤ nI N)) := by
  have := arg_c (a := a) (N := N + 1) (by omega) rfl rfl
  rw [nI_p1] at this
  exact this
theorem Inv_fnd {w : qq_w} (h : Inv w) (k : Nat) (hk : k < 6) : Inv (qq_ui (qq_ui (qq_ui (qq_ui w 6 1 (nI k)) 32 k (w.1 32 k + 1)) 8 0 (nI k)) 36 k (w.1 36 k + 1)) := by
  obtain ⟨N, Pn, E, H, hF, hT, hS⟩ := h
  have hfr : frT w (qq_ui (qq_ui (qq_ui (qq_ui w 6 1 (nI k)) 32 k (w.1 32 k + 1)) 8 0 (nI k)) 36 k (w.1 36 k + 1)) := by
    refine ⟨fun q hq => ?_, fun j hj => ?_, rfl⟩
    · have z6 : q ≠ 6 := fun z => hq (by simp [z])
      have z8 : q ≠ 8 := fun z => hq (by simp [z])
      have z32 : q ≠ 32 := fun z => hq (by simp [z])
      have z36 : q ≠ 36 := fun z => hq (by simp [z])
      simp only [qq_ui, va_up, z6, z8, z32, z36, if_false]
    · have z0 : j ≠ 0 := fun z => hj (by simp [z])
      show upd (w.1 8) 0 _ j = _
      rw [upd_at, if_neg z0]
  refine ⟨N, Pn, E, iPrg_sp (frT_sp hfr) H, ⟨rfl, fun i hi => ?_⟩, iTrk_eq rfl rfl (fun q hq => ?_) hT, iSol_fr hfr hS⟩
  · show upd (w.1 36) k _ i = upd (w.1 32) k _ i
    rw [upd_at, upd_at, hF.2 i hi, hF.2 k hk]
  · have z6 : q ≠ 6 := fun z => by subst z; revert hq; decide
    have z8 : q ≠ 8 := fun z => by subst z; revert hq; decide
    have z32 : q ≠ 32 := fun z => by subst z; revert hq; decide
    have z36 : q ≠ 36 := fun z => by subst z; revert hq; decide
    simp only [qq_ui, va_up, z6, z8, z32, z36, if_false]
theorem vk1 : vp_in 1 6 := by unfold vp_in; decide
theorem vk2 : vp_in 2 6 := by unfold vp_in; decide
theorem vk3 : vp_in 3 6 := by unfold vp_in; decide
theorem vk4 : vp_in 4 6 := by unfold vp_in; decide
theorem vk5 : vp_in 5 6 := by unfold vp_in; decide
theorem lo_told (a b : Int32) : lwI Inv T_X7_told T_X8_told [.int a, .int b] := by
  intro w h
  obtain ⟨N, Pn, E, H, hF, hT, hS⟩ := id h
  obtain ⟨hN, hP, hE, e10, e88, e9, e82, e11, e820, -⟩ := H.1
  rcases arg_c (a := a) (by omega) e10 e88 with ⟨n, hn, ea, k1, k2, k3⟩ | ⟨k1, k3⟩ | ⟨k1, k2, k3⟩
  · have hv : vp_in a 64 := i_in 64 ea (by omega) (by decide)
    rcases arg_k (a := b) 9 (by omega) with ⟨j, hj, eb, m1, m2, m3⟩ | ⟨m1, m3⟩ | ⟨m1, m2, m3⟩
    · have hv2 : vp_in b 10 := i_in 10 eb (by omega) (by decide)
      have hv3 := nI_ml ea eb (nI_lit 10)
      have hv4 : vp_in (a * 10 + b) 640 := i_in 640 hv3 (by omega) (by decide)
      have hv5 : vp_in a 64 ∧ vp_in b 10 := ⟨hv, hv2⟩
      conv => whnf
      (repeat ((first | refine br_t (by decide) ?_ | refine br_f (by decide) ?_ | refine br_nt (by decide) ?_ | refine br_nf (by decide) ?_ | refine br_t (by assumption) ?_ | refine br_f (by assumption) ?_ | refine br_nt (by assumption) ?_ | refine br_nf (by assumption) ?_ | refine ⟨_, rfl, ?_⟩ | refine ⟨by assumption, ?_⟩); (conv => whnf)))
      refine ⟨?_, h⟩
      have q1 : qn a = n := by rw [ea, qn_nI (by omega)]
      have q2 : qn b = j := by rw [eb, qn_nI (by omega)]
      have q3 : (a * 10 + b).toNatClampNeg = 10 * n + j := i_c hv3 (by omega)
      show some (Value.int (mTell w (qn a) (qn b))) = some (Value.int (w.1 13 (a * 10 + b).toNatClampNeg))
      rw [q1, q2, q3, (H.2.1 n hn).1 j hj]
    · conv => whnf
      (repeat ((first | refine br_t (by decide) ?_ | refine br_f (by decide) ?_ | refine br_nt (by decide) ?_ | refine br_nf (by decide) ?_ | refine br_t (by assumption) ?_ | refine br_f (by assumption) ?_ | refine br_nt (by assumption) ?_ | refine br_nf (by assumption) ?_ | refine ⟨_, rfl, ?_⟩ | refine ⟨by assumption, ?_⟩); (conv => whnf)))
      exact ⟨rfl, h⟩
    · conv => whnf
      (repeat ((first | refine br_t (by decide) ?_ | refine br_f (by decide) ?_ | refine br_nt (by decide) ?_ | refine br_nf (by decide) ?_ | refine br_t (by assumption) ?_ | refine br_f (by assumption) ?_ | refine br_nt (by assumption) ?_ | refine br_nf (by assumption) ?_ | refine ⟨_, rfl, ?_⟩ | refine ⟨by assumption, ?_⟩); (conv => whnf)))
      exact ⟨rfl, h⟩
  · conv => whnf
    (repeat ((first | refine br_t (by decide) ?_ | refine br_f (by decide) ?_ | refine br_nt (by decide) ?_ | refine br_nf (by decide) ?_ | refine br_t (by assumption) ?_ | refine br_f (by assumption) ?_ | refine br_nt (by assumption) ?_ | refine br_nf (by assumption) ?_ | refine ⟨_, rfl, ?_⟩ | refine ⟨by assumption, ?_⟩); (conv => whnf)))
    exact ⟨rfl, h⟩
  · conv => whnf
    (repeat ((first | refine br_t (by decide) ?_ | refine br_f (by decide) ?_ | refine br_nt (by decide) ?_ | refine br_nf (by decide) ?_ | refine br_t (by assumption) ?_ | refine br_f (by assumption) ?_ | refine br_nt (by assumption) ?_ | refine br_nf (by assumption) ?_ | refine ⟨_, rfl, ?_⟩ | refine ⟨by assumption, ?_⟩); (conv => whnf)))
    exact ⟨rfl, h⟩
theorem lo_given (a b : Int32) : lwI Inv T_X7_given T_X8_given [.int a, .int b] := by
  intro w h
  obtain ⟨N, Pn, E, H, hF, hT, hS⟩ := id h
  obtain ⟨hN, hP, hE, e10, e88, e9, e82, e11, e820, -⟩ := H.1
  rcases arg_c (a := a) (by omega) e10 e88 with ⟨n, hn, ea, k1, k2, k3⟩ | ⟨k1, k3⟩ | ⟨k1, k2, k3⟩
  · have hv : vp_in a 64 := i_in 64 ea (by omega) (by decide)
    have c1 := nI_ml ea (x := 1) (i := 1) rfl (nI_lit 10)
    have v1 : vp_in (a * 10 + 1) 640 := i_in 640 c1 (by omega) (by decide)
    have c8 := nI_ml ea (x := 8) (i := 8) rfl (nI_lit 10)
    have v8 : vp_in (a * 10 + 8) 640 := i_in 640 c8 (by omega) (by decide)
    have ka : a.toNatClampNeg = n := i_c ea (by omega)
    have q1 : w.1 13 (a * 10 + 1).toNatClampNeg = cX w n 1 := by rw [i_c c1 (by omega)]
    have q8 : w.1 13 (a * 10 + 8).toNatClampNeg = cX w n 8 := by rw [i_c c8 (by omega)]
    have t1 : w.1 43 a.toNatClampNeg = cX w n 1 := by rw [ka, (iP_tell H hn).2.1]
    have t8 : w.1 50 a.toNatClampNeg = cX w n 8 := by rw [ka, (iP_tell H hn).2.2.2.2.2.2.2.2.1]
    by_cases h9 : cX w n 1 = 9
    · have z1 : w.1 13 (a * 10 + 1).toNatClampNeg = 9 := q1.trans h9
      have z2 : w.1 43 a.toNatClampNeg = 9 := t1.trans h9
      obtain ⟨q, hq, f0, p', r, m, hp', hr, hm, e5, v6, e7, r1, r0, r9, e8, ha⟩ := iP_call H hn h9
      rcases arg_c (a := b) (N := m) (by omega) (q8.trans e8) (t8.trans e8) with ⟨j, hj, eb, m1, m2, m3⟩ | ⟨m1, m3⟩ | ⟨m1, m2, m3⟩
      · have c4 := nI_ml ea eb (nI_lit 4)
        have v4 : vp_in (a * 4 + b) 256 := i_in 256 c4 (by omega) (by decide)
        have c4' := nI_mr ea eb (nI_lit 4)
        have v4' : vp_in (4 * a + b) 256 := i_in 256 c4' (by omega) (by decide)
        conv => whnf
        (repeat ((first | refine br_t (by decide) ?_ | refine br_f (by decide) ?_ | refine br_nt (by decide) ?_ | refine br_nf (by decide) ?_ | refine br_t (by assumption) ?_ | refine br_f (by assumption) ?_ | refine br_nt (by assumption) ?_ | refine br_nf (by assumption) ?_ | refine ⟨_, rfl, ?_⟩ | refine ⟨by assumption, ?_⟩); (conv => whnf)))
        refine ⟨?_, h⟩
        show some (Value.int (w.1 51 (4 * a + b).toNatClampNeg)) = some (Value.int (w.1 14 (a * 4 + b).toNatClampNeg))
        rw [i_c c4 (by omega), i_c c4' (by omega), (ha j (by omega)).2]
      · have f2 := vk2
        conv => whnf
        (repeat ((first | refine br_t (by decide) ?_ | refine br_f (by decide) ?_ | refine br_nt (by decide) ?_ | refine br_nf (by decide) ?_ | refine br_t (by assumption) ?_ | refine br_f (by assumption) ?_ | refine br_nt (by assumption) ?_ | refine br_nf (by assumption) ?_ | refine ⟨_, rfl, ?_⟩ | refine ⟨by assumption, ?_⟩); (conv => whnf)))
        exact ⟨rfl, Inv_fnd h 2 (by decide)⟩
      · have f2 := vk2
        conv => whnf
        (repeat ((first | refine br_t (by decide) ?_ | refine br_f (by decide) ?_ | refine br_nt (by decide) ?_ | refine br_nf (by decide) ?_ | refine br_t (by assumption) ?_ | refine br_f (by assumption) ?_ | refine br_nt (by assumption) ?_ | refine br_nf (by assumption) ?_ | refine ⟨_, rfl, ?_⟩ | refine ⟨by assumption, ?_⟩); (conv => whnf)))
        exact ⟨rfl, Inv_fnd h 2 (by decide)⟩
    · have z1 : ¬ w.1 13 (a * 10 + 1).toNatClampNeg = 9 := fun z => h9 (q1.symm.trans z)
      have z2 : ¬ w.1 43 a.toNatClampNeg = 9 := fun z => h9 (t1.symm.trans z)
      have f3 := vk3
      conv => whnf
      (repeat ((first | refine br_t (by decide) ?_ | refine br_f (by decide) ?_ | refine br_nt (by decide) ?_ | refine br_nf (by decide) ?_ | refine br_t (by assumption) ?_ | refine br_f (by assumption) ?_ | refine br_nt (by assumption) ?_ | refine br_nf (by assumption) ?_ | refine ⟨_, rfl, ?_⟩ | refine ⟨by assumption, ?_⟩); (conv => whnf)))
      exact ⟨rfl, Inv_fnd h 3 (by decide)⟩
  · conv => whnf
    (repeat ((first | refine br_t (by decide) ?_ | refine br_f (by decide) ?_ | refine br_nt (by decide) ?_ | refine br_nf (by decide) ?_ | refine br_t (by assumption) ?_ | refine br_f (by assumption) ?_ | refine br_nt (by assumption) ?_ | refine br_nf (by assumption) ?_ | refine ⟨_, rfl, ?_⟩ | refine ⟨by assumption, ?_⟩); (conv => whnf)))
    exact ⟨rfl, h⟩
  · conv => whnf
    (repeat ((first | refine br_t (by decide) ?_ | refine br_f (by decide) ?_ | refine br_nt (by decide) ?_ | refine br_nf (by decide) ?_ | refine br_t (by assumption) ?_ | refine br_f (by assumption) ?_ | refine br_nt (by assumption) ?_ | refine br_nf (by assumption) ?_ | refine ⟨_, rfl, ?_⟩ | refine ⟨by assumption, ?_⟩); (conv => whnf)))
    exact ⟨rfl, h⟩
theorem lo_solved : lwI Inv T_X7_solved T_X8_solved [] := by
  intro w h
  obtain ⟨N, Pn, E, H, hF, hT, hS⟩ := id h
  rcases hS.2 with ⟨q1, q2, q3, q4, -⟩ | ⟨t, f, f', q1, q2, q3, -⟩
  · conv => whnf
    (repeat ((first | refine br_t (by decide) ?_ | refine br_f (by decide) ?_ | refine br_nt (by decide) ?_ | refine br_nf (by decide) ?_ | refine br_t (by assumption) ?_ | refine br_f (by assumption) ?_ | refine br_nt (by assumption) ?_ | refine br_nf (by assumption) ?_ | refine ⟨_, rfl, ?_⟩ | refine ⟨by assumption, ?_⟩); (conv => whnf)))
    exact ⟨rfl, h⟩
  · have z1 : ¬ w.1 3 7 = 0 := by rw [q1.2.1]; decide
    have z2 : ¬ w.1 8 27 = 0 := by rw [q2.2.1]; decide
    obtain ⟨b1, b2, b3, b4⟩ := beg_t q1
    obtain ⟨d1, d2, d3, d4, d5⟩ := meg_t q2
    have hd := done_iff q1 q2
    by_cases ht : t = f
    · have ht' := hd.mp ht
      have z3 : w.1 3 6 = w.1 3 5 := by rw [b3, b4, ht]
      have z4 : w.1 8 33 = w.1 8 32 := by rw [d3, d4, ht']
      conv => whnf
      (repeat ((first | refine br_t (by decide) ?_ | refine br_f (by decide) ?_ | refine br_nt (by decide) ?_ | refine br_nf (by decide) ?_ | refine br_t (by assumption) ?_ | refine br_f (by assumption) ?_ | refine br_nt (by assumption) ?_ | refine br_nf (by assumption) ?_ | refine ⟨_, rfl, ?_⟩ | refine ⟨by assumption, ?_⟩); (conv => whnf)))
      exact ⟨rfl, h⟩
    · have z3 : ¬ w.1 3 6 = w.1 3 5 := fun z => ht (nI_inj (by omega) (by omega) (b3.symm.trans (z.trans b4)))
      have z4 : ¬ w.1 8 33 = w.1 8 32 := fun z => ht (hd.mpr (nI_inj (by omega) (by omega) (d3.symm.trans (z.trans d4))))
      conv => whnf
      (repeat ((first | refine br_t (by decide) ?_ | refine br_f (by decide) ?_ | refine br_nt (by decide) ?_ | refine br_nf (by decide) ?_ | refine br_t (by assumption) ?_ | refine br_f (by assumption) ?_ | refine br_nt (by assumption) ?_ | refine br_nf (by assumption) ?_ | refine ⟨_, rfl, ?_⟩ | refine ⟨by assumption, ?_⟩); (conv => whnf)))
      exact ⟨rfl, h⟩
