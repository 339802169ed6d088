set_option maxHeartbeats 32000000 in
set_option maxRecDepth 100000 in
theorem lo_call (a b c d : Int32) : lwI Inv T_X7_call T_X8_call [.int a, .int b, .int c, .int d] := by
  intro w h
  obtain ⟨N, Pn, E, H, hF, hT, hS⟩ := id h
  obtain ⟨hN, hP, hE, e10, e88, e9, e82, -⟩ := H.1
  have i64 : (64 : Int32).toInt = 64 := by decide
  have i4 : (4 : Int32).toInt = 4 := by decide
  have i0 : (0 : Int32).toInt = 0 := by decide
  have g1 : w.1 1 10 + 2 = nI (N + 2) := by
    rw [e10]
    exact nI_add N 2
  have g2 : w.1 8 8 + 2 = nI (N + 2) := by
    rw [e88]
    exact nI_add N 2
  have rest : ∀ n p', n < Pn → a = nI n → p' < Pn → b = nI p' → ¬ a < 0 → ¬ w.1 1 9 ≤ a → (0 ≤ a ∧ a ≤ w.1 8 2 - 1) → ¬ b < 0 → ¬ w.1 1 9 ≤ b → (0 ≤ b ∧ b ≤ w.1 8 2 - 1) → vp_in a 8 → ¬ 4 < d → d ≤ 4 → iVarO w n c → (c = -5 ∨ (¬ c = -5 ∧ ¬ c ≤ 0 ∧ ¬ 5 + w.1 9 a.toNatClampNeg ≤ c ∧ 1 ≤ c ∧ c ≤ 4 + w.1 37 a.toNatClampNeg)) → T_X7_call [.ref 0, .int a, .int b, .int c, .int d] w (fun v w1 => ∃ X : Int32, v = some (.int X) ∧ T_X8_call [.ref 8, .int a, .int b, .int c, .int d] w1 (fun v' w2 => v' = some (.int X) ∧ Inv w2)) := by
    intro n p' hn ea hp' eb k1 k2 k3 l1 l2 l3 hv d4 d5 hres hc
    by_cases hfull : N + 2 ≤ 64
    · have hr1 : ¬ 64 < w.1 1 10 + 2 := by
        rw [g1, i_lt, nI_toInt (by omega), i64]
        omega
      have hr2 : ¬ 64 < w.1 8 8 + 2 := by
        rw [g2, i_lt, nI_toInt (by omega), i64]
        omega
      have hr3 : w.1 8 8 + 2 ≤ 64 := by
        rw [g2, i_le, nI_toInt (by omega), i64]
        omega
      by_cases d0 : d < 0
      · have f5 := vk5
        have d0' : ¬ 0 ≤ d := fun z => (i_nlt d 0).mpr z d0
        clear g1 g2 e10 e88 e9 e82 i64 i4 i0
        rcases hc with hc | ⟨hc, c1, c2, c3⟩
        · conv => whnf
          (repeat ((first | refine br_t (by decide) ?_ | refine br_f (by decide) ?_ | refine br_nt (by decide) ?_ | refine br_nf (by decide) ?_ | refine ⟨_, rfl, ?_⟩ | refine br_t (by with_reducible assumption) ?_ | refine br_f (by with_reducible assumption) ?_ | refine br_nt (by with_reducible assumption) ?_ | refine br_nf (by with_reducible assumption) ?_ | refine ⟨by with_reducible assumption, ?_⟩ | refine ⟨Or.inl rfl, ?_⟩ | refine br_t (by assumption) ?_ | refine br_f (by assumption) ?_ | refine br_nt (by assumption) ?_ | refine br_nf (by assumption) ?_ | refine ⟨by assumption, ?_⟩); (conv => whnf)))
          exact ⟨rfl, Inv_fnd h 5 (by decide)⟩
        · conv => whnf
          (repeat ((first | refine br_t (by decide) ?_ | refine br_f (by decide) ?_ | refine br_nt (by decide) ?_ | refine br_nf (by decide) ?_ | refine ⟨_, rfl, ?_⟩ | refine br_t (by with_reducible assumption) ?_ | refine br_f (by with_reducible assumption) ?_ | refine br_nt (by with_reducible assumption) ?_ | refine br_nf (by with_reducible assumption) ?_ | refine ⟨by with_reducible assumption, ?_⟩ | refine ⟨Or.inl rfl, ?_⟩ | refine br_t (by assumption) ?_ | refine br_f (by assumption) ?_ | refine br_nt (by assumption) ?_ | refine br_nf (by assumption) ?_ | refine ⟨by assumption, ?_⟩); (conv => whnf)))
          exact ⟨rfl, Inv_fnd h 5 (by decide)⟩
      · have hd : d = nI d.toInt.toNat ∧ d.toInt.toNat ≤ 4 := by
          have z1 := d0
          have z2 := d5
          rw [i_lt, i0] at z1
          rw [i_le, i4] at z2
          refine ⟨Int32.toInt_inj.mp ?_, by omega⟩
          rw [nI_toInt (by omega)]
          omega
        exact cl_ok h H hF hT hS hn ea hp' eb hd.2 hd.1 k1 k2 k3 l1 l2 l3 hv d4 d5 d0 hr1 hr2 hr3 hfull hres hc
    · have hr1 : 64 < w.1 1 10 + 2 := by
        rw [g1, i_lt, nI_toInt (by omega), i64]
        omega
      have hr2 : 64 < w.1 8 8 + 2 := by
        rw [g2, i_lt, nI_toInt (by omega), i64]
        omega
      have hr3 : ¬ w.1 8 8 + 2 ≤ 64 := by
        rw [g2, i_le, nI_toInt (by omega), i64]
        omega
      clear g1 g2 e10 e88 e9 e82 i64 i4 i0
      rcases hc with hc | ⟨hc, c1, c2, c3⟩
      · ((conv => whnf); (repeat ((first | refine br_t (by decide) ?_ | refine br_f (by decide) ?_ | refine br_nt (by decide) ?_ | refine br_nf (by decide) ?_ | refine ⟨_, rfl, ?_⟩ | refine br_t (by with_reducible assumption) ?_ | refine br_f (by with_reducible assumption) ?_ | refine br_nt (by with_reducible assumption) ?_ | refine br_nf (by with_reducible assumption) ?_ | refine ⟨by with_reducible assumption, ?_⟩ | refine ⟨Or.inl rfl, ?_⟩ | refine br_t (by assumption) ?_ | refine br_f (by assumption) ?_ | refine br_nt (by assumption) ?_ | refine br_nf (by assumption) ?_ | refine ⟨by assumption, ?_⟩); (conv => whnf))); exact ⟨rfl, h⟩)
      · ((conv => whnf); (repeat ((first | refine br_t (by decide) ?_ | refine br_f (by decide) ?_ | refine br_nt (by decide) ?_ | refine br_nf (by decide) ?_ | refine ⟨_, rfl, ?_⟩ | refine br_t (by with_reducible assumption) ?_ | refine br_f (by with_reducible assumption) ?_ | refine br_nt (by with_reducible assumption) ?_ | refine br_nf (by with_reducible assumption) ?_ | refine ⟨by with_reducible assumption, ?_⟩ | refine ⟨Or.inl rfl, ?_⟩ | refine br_t (by assumption) ?_ | refine br_f (by assumption) ?_ | refine br_nt (by assumption) ?_ | refine br_nf (by assumption) ?_ | refine ⟨by assumption, ?_⟩); (conv => whnf))); exact ⟨rfl, h⟩)
  rcases arg_c (a := a) (by omega) e9 e82 with ⟨n, hn, ea, k1, k2, k3⟩ | ⟨k1, k3⟩ | ⟨k1, k2, k3⟩
  · have hv : vp_in a 8 := i_in 8 ea (by omega) (by decide)
    have ka : a.toNatClampNeg = n := i_c ea (by omega)
    have hpr := H.2.2.1 n hn
    rcases arg_c (a := b) (by omega) e9 e82 with ⟨p', hp', eb, l1, l2, l3⟩ | ⟨l1, l3⟩ | ⟨l1, l2, l3⟩
    · by_cases h5 : c = -5
      · by_cases d4 : 4 < d
        · have d5 : ¬ d ≤ 4 := by
            rw [i_le]
            rw [i_lt] at d4
            omega
          clear rest
          ((conv => whnf); (repeat ((first | refine br_t (by decide) ?_ | refine br_f (by decide) ?_ | refine br_nt (by decide) ?_ | refine br_nf (by decide) ?_ | refine ⟨_, rfl, ?_⟩ | refine br_t (by with_reducible assumption) ?_ | refine br_f (by with_reducible assumption) ?_ | refine br_nt (by with_reducible assumption) ?_ | refine br_nf (by with_reducible assumption) ?_ | refine ⟨by with_reducible assumption, ?_⟩ | refine ⟨Or.inl rfl, ?_⟩ | refine br_t (by assumption) ?_ | refine br_f (by assumption) ?_ | refine br_nt (by assumption) ?_ | refine br_nf (by assumption) ?_ | refine ⟨by assumption, ?_⟩); (conv => whnf))); exact ⟨rfl, h⟩)
        · have d5 : d ≤ 4 := (i_nlt 4 d).mp d4
          exact rest n p' hn ea hp' eb k1 k2 k3 l1 l2 l3 hv d4 d5 (Or.inl h5) (Or.inl h5)
      · rcases var_c2 hpr c (w.1 9 a.toNatClampNeg) (w.1 37 a.toNatClampNeg) (by rw [ka]) (by rw [ka]) with ⟨xX0, -, xX1, xX2, xX4⟩ | ⟨-, xX2, xX4⟩ | ⟨-, xX1, xX2, xX4⟩
        · by_cases d4 : 4 < d
          · have d5 : ¬ d ≤ 4 := by
              rw [i_le]
              rw [i_lt] at d4
              omega
            clear rest
            ((conv => whnf); (repeat ((first | refine br_t (by decide) ?_ | refine br_f (by decide) ?_ | refine br_nt (by decide) ?_ | refine br_nf (by decide) ?_ | refine ⟨_, rfl, ?_⟩ | refine br_t (by with_reducible assumption) ?_ | refine br_f (by with_reducible assumption) ?_ | refine br_nt (by with_reducible assumption) ?_ | refine br_nf (by with_reducible assumption) ?_ | refine ⟨by with_reducible assumption, ?_⟩ | refine ⟨Or.inl rfl, ?_⟩ | refine br_t (by assumption) ?_ | refine br_f (by assumption) ?_ | refine br_nt (by assumption) ?_ | refine br_nf (by assumption) ?_ | refine ⟨by assumption, ?_⟩); (conv => whnf))); exact ⟨rfl, h⟩)
          · have d5 : d ≤ 4 := (i_nlt 4 d).mp d4
            exact rest n p' hn ea hp' eb k1 k2 k3 l1 l2 l3 hv d4 d5 (Or.inr xX0) (Or.inr ⟨h5, xX1, xX2, xX4⟩)
        · clear rest
          by_cases d5 : d ≤ 4
          · ((conv => whnf); (repeat ((first | refine br_t (by decide) ?_ | refine br_f (by decide) ?_ | refine br_nt (by decide) ?_ | refine br_nf (by decide) ?_ | refine ⟨_, rfl, ?_⟩ | refine br_t (by with_reducible assumption) ?_ | refine br_f (by with_reducible assumption) ?_ | refine br_nt (by with_reducible assumption) ?_ | refine br_nf (by with_reducible assumption) ?_ | refine ⟨by with_reducible assumption, ?_⟩ | refine ⟨Or.inl rfl, ?_⟩ | refine br_t (by assumption) ?_ | refine br_f (by assumption) ?_ | refine br_nt (by assumption) ?_ | refine br_nf (by assumption) ?_ | refine ⟨by assumption, ?_⟩); (conv => whnf))); exact ⟨rfl, h⟩)
          · ((conv => whnf); (repeat ((first | refine br_t (by decide) ?_ | refine br_f (by decide) ?_ | refine br_nt (by decide) ?_ | refine br_nf (by decide) ?_ | refine ⟨_, rfl, ?_⟩ | refine br_t (by with_reducible assumption) ?_ | refine br_f (by with_reducible assumption) ?_ | refine br_nt (by with_reducible assumption) ?_ | refine br_nf (by with_reducible assumption) ?_ | refine ⟨by with_reducible assumption, ?_⟩ | refine ⟨Or.inl rfl, ?_⟩ | refine br_t (by assumption) ?_ | refine br_f (by assumption) ?_ | refine br_nt (by assumption) ?_ | refine br_nf (by assumption) ?_ | refine ⟨by assumption, ?_⟩); (conv => whnf))); exact ⟨rfl, h⟩)
        · clear rest
          by_cases d5 : d ≤ 4
          · ((conv => whnf); (repeat ((first | refine br_t (by decide) ?_ | refine br_f (by decide) ?_ | refine br_nt (by decide) ?_ | refine br_nf (by decide) ?_ | refine ⟨_, rfl, ?_⟩ | refine br_t (by with_reducible assumption) ?_ | refine br_f (by with_reducible assumption) ?_ | refine br_nt (by with_reducible assumption) ?_ | refine br_nf (by with_reducible assumption) ?_ | refine ⟨by with_reducible assumption, ?_⟩ | refine ⟨Or.inl rfl, ?_⟩ | refine br_t (by assumption) ?_ | refine br_f (by assumption) ?_ | refine br_nt (by assumption) ?_ | refine br_nf (by assumption) ?_ | refine ⟨by assumption, ?_⟩); (conv => whnf))); exact ⟨rfl, h⟩)
          · ((conv => whnf); (repeat ((first | refine br_t (by decide) ?_ | refine br_f (by decide) ?_ | refine br_nt (by decide) ?_ | refine br_nf (by decide) ?_ | refine ⟨_, rfl, ?_⟩ | refine br_t (by with_reducible assumption) ?_ | refine br_f (by with_reducible assumption) ?_ | refine br_nt (by with_reducible assumption) ?_ | refine br_nf (by with_reducible assumption) ?_ | refine ⟨by with_reducible assumption, ?_⟩ | refine ⟨Or.inl rfl, ?_⟩ | refine br_t (by assumption) ?_ | refine br_f (by assumption) ?_ | refine br_nt (by assumption) ?_ | refine br_nf (by assumption) ?_ | refine ⟨by assumption, ?_⟩); (conv => whnf))); exact ⟨rfl, h⟩)
    · clear rest
      ((conv => whnf); (repeat ((first | refine br_t (by decide) ?_ | refine br_f (by decide) ?_ | refine br_nt (by decide) ?_ | refine br_nf (by decide) ?_ | refine ⟨_, rfl, ?_⟩ | refine br_t (by with_reducible assumption) ?_ | refine br_f (by with_reducible assumption) ?_ | refine br_nt (by with_reducible assumption) ?_ | refine br_nf (by with_reducible assumption) ?_ | refine ⟨by with_reducible assumption, ?_⟩ | refine ⟨Or.inl rfl, ?_⟩ | refine br_t (by assumption) ?_ | refine br_f (by assumption) ?_ | refine br_nt (by assumption) ?_ | refine br_nf (by assumption) ?_ | refine ⟨by assumption, ?_⟩); (conv => whnf))); exact ⟨rfl, h⟩)
    · clear rest
      ((conv => whnf); (repeat ((first | refine br_t (by decide) ?_ | refine br_f (by decide) ?_ | refine br_nt (by decide) ?_ | refine br_nf (by decide) ?_ | refine ⟨_, rfl, ?_⟩ | refine br_t (by with_reducible assumption) ?_ | refine br_f (by with_reducible assumption) ?_ | refine br_nt (by with_reducible assumption) ?_ | refine br_nf (by with_reducible assumption) ?_ | refine ⟨by with_reducible assumption, ?_⟩ | refine ⟨Or.inl rfl, ?_⟩ | refine br_t (by assumption) ?_ | refine br_f (by assumption) ?_ | refine br_nt (by assumption) ?_ | refine br_nf (by assumption) ?_ | refine ⟨by assumption, ?_⟩); (conv => whnf))); exact ⟨rfl, h⟩)
  · clear rest
    ((conv => whnf); (repeat ((first | refine br_t (by decide) ?_ | refine br_f (by decide) ?_ | refine br_nt (by decide) ?_ | refine br_nf (by decide) ?_ | refine ⟨_, rfl, ?_⟩ | refine br_t (by with_reducible assumption) ?_ | refine br_f (by with_reducible assumption) ?_ | refine br_nt (by with_reducible assumption) ?_ | refine br_nf (by with_reducible assumption) ?_ | refine ⟨by with_reducible assumption, ?_⟩ | refine ⟨Or.inl rfl, ?_⟩ | refine br_t (by assumption) ?_ | refine br_f (by assumption) ?_ | refine br_nt (by assumption) ?_ | refine br_nf (by assumption) ?_ | refine ⟨by assumption, ?_⟩); (conv => whnf))); exact ⟨rfl, h⟩)
  · clear rest
    ((conv => whnf); (repeat ((first | refine br_t (by decide) ?_ | refine br_f (by decide) ?_ | refine br_nt (by decide) ?_ | refine br_nf (by decide) ?_ | refine ⟨_, rfl, ?_⟩ | refine br_t (by with_reducible assumption) ?_ | refine br_f (by with_reducible assumption) ?_ | refine br_nt (by with_reducible assumption) ?_ | refine br_nf (by with_reducible assumption) ?_ | refine ⟨by with_reducible assumption, ?_⟩ | refine ⟨Or.inl rfl, ?_⟩ | refine br_t (by assumption) ?_ | refine br_f (by assumption) ?_ | refine br_nt (by assumption) ?_ | refine br_nf (by assumption) ?_ | refine ⟨by assumption, ?_⟩); (conv => whnf))); exact ⟨rfl, h⟩)
