/-! THE CALLS: readers -/
theorem arg_c {a x y : Int32} {N : Nat} (hN : N ≤ 100000) (hx : x = nI N) (hy : y = nI N) : (∃ n, n < N ∧ a = nI n ∧ ¬ a < 0 ∧ ¬ x ≤ a ∧ (0 ≤ a ∧ a ≤ y - 1)) ∨ (a < 0 ∧ ¬ (0 ≤ a ∧ a ≤ y - 1)) ∨ (¬ a < 0 ∧ x ≤ a ∧ ¬ (0 ≤ a ∧ a ≤ y - 1)) := by
  subst hx hy
  by_cases h0 : a < 0
  · refine Or.inr (Or.inl ⟨h0, fun z => ?_⟩)
    have := z.1
    rw [i_le] at this
    rw [i_lt] at h0
    omega
  have h0' : 0 ≤ a := (i_nlt a 0).mp h0
  have hm : a ≤ nI N - 1 ↔ ¬ nI N ≤ a := by
    cases N with
    | zero =>
      constructor
      · intro z
        have h1 := i_le.mp z
        have h2 := i_le.mp h0'
        have e1 : (nI 0 - 1).toInt = -1 := by decide
        have e2 : (0 : Int32).toInt = 0 := by decide
        omega
      · intro z
        exact absurd h0' z
    | succ N =>
      rw [nI_p1]
      have e1 : (nI N).toInt = N := nI_toInt (by omega)
      have e2 : (nI (N + 1)).toInt = (N + 1 : Nat) := nI_toInt (by omega)
      rw [i_le, i_le, e1, e2]
      omega
  by_cases h1 : nI N ≤ a
  · exact Or.inr (Or.inr ⟨h0, h1, fun z => hm.mp z.2 h1⟩)
  · obtain ⟨e, hlt⟩ : a = nI (qn a) ∧ qn a < N := by
      have h2 := i_le.mp h0'
      have e0 : (0 : Int32).toInt = 0 := by decide
      have e1 : (nI N).toInt = N := nI_toInt (by omega)
      have h3 : a.toInt < N := by
        rw [i_le, e1] at h1
        omega
      exact qn_eq (n := N) (fun z => z.elim h0 (fun y => by have y : N ≤ a.toInt.toNat := y; omega)) (by omega)
    exact Or.inl ⟨qn a, hlt, e, h0, h1, h0', hm.mpr h1⟩
theorem lo_finding : lwI Inv T_X7_finding T_X8_finding [] := by
  intro w h
  obtain ⟨N, Pn, E, H, hF, hT, hS⟩ := id h
  conv => whnf
  (repeat ((first | refine br_t (by decide) ?_ | refine br_f (by decide) ?_ | refine br_nt (by decide) ?_ | refine br_nf (by decide) ?_ | refine br_t (by assumption) ?_ | refine br_f (by assumption) ?_ | refine br_nt (by assumption) ?_ | refine br_nf (by assumption) ?_ | refine ⟨_, rfl, ?_⟩ | refine ⟨by assumption, ?_⟩); (conv => whnf)))
  exact ⟨by rw [show w.1 8 0 = w.1 6 1 from hF.1], h⟩
theorem lo_findings (a : Int32) : lwI Inv T_X7_findings T_X8_findings [.int a] := by
  intro w h
  obtain ⟨N, Pn, E, H, hF, hT, hS⟩ := id h
  by_cases h1 : a < 1
  · have h2 : ¬ (1 ≤ a ∧ a ≤ 5) := fun z => (i_nlt a 1).mpr z.1 h1
    conv => whnf
    (repeat ((first | refine br_t (by decide) ?_ | refine br_f (by decide) ?_ | refine br_nt (by decide) ?_ | refine br_nf (by decide) ?_ | refine br_t (by assumption) ?_ | refine br_f (by assumption) ?_ | refine br_nt (by assumption) ?_ | refine br_nf (by assumption) ?_ | refine ⟨_, rfl, ?_⟩ | refine ⟨by assumption, ?_⟩); (conv => whnf)))
    exact ⟨rfl, h⟩
  by_cases h3 : a ≤ 5
  · have h2 : 1 ≤ a ∧ a ≤ 5 := ⟨(i_nlt a 1).mp h1, h3⟩
    have hv : vp_in a 6 := in_of 5 (by decide) (by have := i_le.mp h2.1; rw [i_le]; have e0 : (0 : Int32).toInt = 0 := by decide
                                                   have e1 : (1 : Int32).toInt = 1 := by decide
                                                   omega) h3
    conv => whnf
    (repeat ((first | refine br_t (by decide) ?_ | refine br_f (by decide) ?_ | refine br_nt (by decide) ?_ | refine br_nf (by decide) ?_ | refine br_t (by assumption) ?_ | refine br_f (by assumption) ?_ | refine br_nt (by assumption) ?_ | refine br_nf (by assumption) ?_ | refine ⟨_, rfl, ?_⟩ | refine ⟨by assumption, ?_⟩); (conv => whnf)))
    refine ⟨?_, h⟩
    show some (Value.int (w.1 36 (qn a))) = some (Value.int (w.1 32 (qn a)))
    rw [hF.2 _ (qn_eq hv (by decide)).2]
  · have h2 : ¬ (1 ≤ a ∧ a ≤ 5) := fun z => h3 z.2
    have h4 : (5 : Int32) < a := by
      rw [i_le] at h3
      rw [i_lt]
      omega
    conv => whnf
    (repeat ((first | refine br_t (by decide) ?_ | refine br_f (by decide) ?_ | refine br_nt (by decide) ?_ | refine br_nf (by decide) ?_ | refine br_t (by assumption) ?_ | refine br_f (by assumption) ?_ | refine br_nt (by assumption) ?_ | refine br_nf (by assumption) ?_ | refine ⟨_, rfl, ?_⟩ | refine ⟨by assumption, ?_⟩); (conv => whnf)))
    exact ⟨rfl, h⟩
theorem lo_ends (a b : Int32) (hb : b = 0 ∨ b = 1) : lwI Inv T_X7_ends T_X8_ends [.int a, .int b] := by
  intro w h
  obtain ⟨N, Pn, E, H, hF, hT, hS⟩ := id h
  obtain ⟨hN, hP, hE, e10, e88, e9, e82, e11, e820, -⟩ := H.1
  rcases arg_c (a := a) (by omega) e9 e82 with ⟨n, hn, ea, k1, k2, k3⟩ | ⟨k1, k3⟩ | ⟨k1, k2, k3⟩
  · have hv : vp_in a 8 := i_in 8 ea (by omega) (by decide)
    obtain ⟨x, y, l, -, -, -, hl, g9, g37, g10, g38, g12, g39, g40, -⟩ := H.2.2.1 n hn
    have ec := i_c ea (by omega)
    rcases hb with rfl | rfl
    · conv => whnf
      (repeat ((first | refine br_t (by decide) ?_ | refine br_f (by decide) ?_ | refine br_nt (by decide) ?_ | refine br_nf (by decide) ?_ | refine br_t (by assumption) ?_ | refine br_f (by assumption) ?_ | refine br_nt (by assumption) ?_ | refine br_nf (by assumption) ?_ | refine ⟨_, rfl, ?_⟩ | refine ⟨by assumption, ?_⟩); (conv => whnf)))
      refine ⟨?_, h⟩
      show some (Value.int (w.1 39 a.toNatClampNeg)) = some (Value.int (w.1 12 a.toNatClampNeg))
      rw [ec, g12, g39]
    · conv => whnf
      (repeat ((first | refine br_t (by decide) ?_ | refine br_f (by decide) ?_ | refine br_nt (by decide) ?_ | refine br_nf (by decide) ?_ | refine br_t (by assumption) ?_ | refine br_f (by assumption) ?_ | refine br_nt (by assumption) ?_ | refine br_nf (by assumption) ?_ | refine ⟨_, rfl, ?_⟩ | refine ⟨by assumption, ?_⟩); (conv => whnf)))
      refine ⟨?_, h⟩
      show some (Value.int (w.1 40 a.toNatClampNeg)) = some (Value.int (w.1 12 a.toNatClampNeg + 1))
      rw [ec, g12, g40, nI_1]
  · conv => whnf
    (repeat ((first | refine br_t (by decide) ?_ | refine br_f (by decide) ?_ | refine br_nt (by decide) ?_ | refine br_nf (by decide) ?_ | refine br_t (by assumption) ?_ | refine br_f (by assumption) ?_ | refine br_nt (by assumption) ?_ | refine br_nf (by assumption) ?_ | refine ⟨_, rfl, ?_⟩ | refine ⟨by assumption, ?_⟩); (conv => whnf)))
    exact ⟨rfl, h⟩
  · conv => whnf
    (repeat ((first | refine br_t (by decide) ?_ | refine br_f (by decide) ?_ | refine br_nt (by decide) ?_ | refine br_nf (by decide) ?_ | refine br_t (by assumption) ?_ | refine br_f (by assumption) ?_ | refine br_nt (by assumption) ?_ | refine br_nf (by assumption) ?_ | refine ⟨_, rfl, ?_⟩ | refine ⟨by assumption, ?_⟩); (conv => whnf)))
    exact ⟨rfl, h⟩
theorem lo_count (a : Int32) : lwI Inv T_X7_count T_X8_count [.int a] := by
  intro w h
  obtain ⟨N, Pn, E, H, hF, hT, hS⟩ := id h
  obtain ⟨hN, hP, hE, e10, e88, e9, e82, e11, e820, e12⟩ := H.1
  obtain ⟨s, hs, e57, e844, -⟩ := id hT
  by_cases h0 : a.toInt = 0
  · conv => whnf
    (repeat ((first | refine br_t (by decide) ?_ | refine br_f (by decide) ?_ | refine br_nt (by decide) ?_ | refine br_nf (by decide) ?_ | refine br_t (by assumption) ?_ | refine br_f (by assumption) ?_ | refine br_nt (by assumption) ?_ | refine br_nf (by assumption) ?_ | refine ⟨_, rfl, ?_⟩ | refine ⟨by assumption, ?_⟩); (conv => whnf)))
    exact ⟨by rw [show w.1 8 2 = w.1 1 9 by rw [e9, e82]], h⟩
  by_cases h1 : a.toInt = 1
  · conv => whnf
    (repeat ((first | refine br_t (by decide) ?_ | refine br_f (by decide) ?_ | refine br_nt (by decide) ?_ | refine br_nf (by decide) ?_ | refine br_t (by assumption) ?_ | refine br_f (by assumption) ?_ | refine br_nt (by assumption) ?_ | refine br_nf (by assumption) ?_ | refine ⟨_, rfl, ?_⟩ | refine ⟨by assumption, ?_⟩); (conv => whnf)))
    exact ⟨by rw [show w.1 8 8 = w.1 1 10 by rw [e88, e10]], h⟩
  by_cases h2 : a.toInt = 2
  · conv => whnf
    (repeat ((first | refine br_t (by decide) ?_ | refine br_f (by decide) ?_ | refine br_nt (by decide) ?_ | refine br_nf (by decide) ?_ | refine br_t (by assumption) ?_ | refine br_f (by assumption) ?_ | refine br_nt (by assumption) ?_ | refine br_nf (by assumption) ?_ | refine ⟨_, rfl, ?_⟩ | refine ⟨by assumption, ?_⟩); (conv => whnf)))
    exact ⟨by rw [show w.1 8 20 = w.1 1 11 by rw [e820, e11]], h⟩
  by_cases h3 : a.toInt = 3
  · conv => whnf
    (repeat ((first | refine br_t (by decide) ?_ | refine br_f (by decide) ?_ | refine br_nt (by decide) ?_ | refine br_nf (by decide) ?_ | refine br_t (by assumption) ?_ | refine br_f (by assumption) ?_ | refine br_nt (by assumption) ?_ | refine br_nf (by assumption) ?_ | refine ⟨_, rfl, ?_⟩ | refine ⟨by assumption, ?_⟩); (conv => whnf)))
    exact ⟨by rw [show w.1 8 9 = w.1 1 12 from e12], h⟩
  by_cases h4 : a.toInt = 4
  · rcases hS.2 with ⟨q1, q2, q3, q4, -⟩ | ⟨t, f, f', q1, q2, q3, -⟩
    · conv => whnf
      (repeat ((first | refine br_t (by decide) ?_ | refine br_f (by decide) ?_ | refine br_nt (by decide) ?_ | refine br_nf (by decide) ?_ | refine br_t (by assumption) ?_ | refine br_f (by assumption) ?_ | refine br_nt (by assumption) ?_ | refine br_nf (by assumption) ?_ | refine ⟨_, rfl, ?_⟩ | refine ⟨by assumption, ?_⟩); (conv => whnf)))
      exact ⟨by rw [show w.1 3 6 = 0 from q4], h⟩
    · have q4 : ¬ w.1 8 27 = 0 := by rw [q2.2.1]; decide
      conv => whnf
      (repeat ((first | refine br_t (by decide) ?_ | refine br_f (by decide) ?_ | refine br_nt (by decide) ?_ | refine br_nf (by decide) ?_ | refine br_t (by assumption) ?_ | refine br_f (by assumption) ?_ | refine br_nt (by assumption) ?_ | refine br_nf (by assumption) ?_ | refine ⟨_, rfl, ?_⟩ | refine ⟨by assumption, ?_⟩); (conv => whnf)))
      exact ⟨by rw [show w.1 8 28 = w.1 3 6 by rw [q3, (beg_t q1).2.2.1]], h⟩
  by_cases h5 : a.toInt = 5
  · conv => whnf
    (repeat ((first | refine br_t (by decide) ?_ | refine br_f (by decide) ?_ | refine br_nt (by decide) ?_ | refine br_nf (by decide) ?_ | refine br_t (by assumption) ?_ | refine br_f (by assumption) ?_ | refine br_nt (by assumption) ?_ | refine br_nf (by assumption) ?_ | refine ⟨_, rfl, ?_⟩ | refine ⟨by assumption, ?_⟩); (conv => whnf)))
    exact ⟨by rw [show w.1 8 44 = w.1 5 7 by rw [e844, e57]], h⟩
  · conv => whnf
    (repeat ((first | refine br_t (by decide) ?_ | refine br_f (by decide) ?_ | refine br_nt (by decide) ?_ | refine br_nf (by decide) ?_ | refine br_t (by assumption) ?_ | refine br_f (by assumption) ?_ | refine br_nt (by assumption) ?_ | refine br_nf (by assumption) ?_ | refine ⟨_, rfl, ?_⟩ | refine ⟨by assumption, ?_⟩); (conv => whnf)))
    exact ⟨rfl, h⟩
