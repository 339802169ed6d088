theorem mn_c {a b : Int32} {x : Nat} (ea : a = nI x) (hx : x ≤ 8) : (∃ y, y ≤ 4 ∧ y ≤ x ∧ b = nI y ∧ ¬ b < 0 ∧ ¬ (if 4 < a then 4 else a) + 1 ≤ b ∧ (0 ≤ b ∧ b ≤ 4) ∧ ¬ a < b ∧ b ≤ a) ∨ (b < 0 ∧ ¬ (0 ≤ b ∧ b ≤ 4)) ∨ (¬ b < 0 ∧ (if 4 < a then 4 else a) + 1 ≤ b ∧ ¬ (0 ≤ b ∧ b ≤ 4)) ∨ (¬ b < 0 ∧ (if 4 < a then 4 else a) + 1 ≤ b ∧ (0 ≤ b ∧ b ≤ 4) ∧ a < b ∧ ¬ b ≤ a) := by
  have e0 : (0 : Int32).toInt = 0 := by decide
  have e4 : (4 : Int32).toInt = 4 := by decide
  have em : ((if 4 < a then 4 else a) + 1 : Int32) = nI ((if 4 < x then 4 else x) + 1) := by
    have : (4 : Int32) < a ↔ 4 < x := by
      rw [ea, i_lt, nI_toInt (by omega), e4]
      omega
    by_cases z : 4 < x
    · rw [if_pos (this.mpr z), if_pos z]
      rfl
    · rw [if_neg (fun y => z (this.mp y)), if_neg z, ea, nI_1]
  have hxt : a.toInt = x := by rw [ea, nI_toInt (by omega)]
  rw [em, i_lt, i_le, i_le, i_le, i_lt, i_le, e0, e4, hxt, nI_toInt (by split <;> omega)]
  by_cases h1 : b.toInt < 0
  · exact Or.inr (Or.inl ⟨h1, by omega⟩)
  by_cases h2 : b.toInt ≤ 4
  · by_cases h3 : b.toInt ≤ x
    · refine Or.inl ⟨b.toInt.toNat, by omega, by omega, ?_, h1, by split <;> omega, by omega, by omega, h3⟩
      apply Int32.toInt_inj.mp
      rw [nI_toInt (by omega)]
      omega
    · exact Or.inr (Or.inr (Or.inr ⟨h1, by split <;> omega, by omega, by omega, h3⟩))
  · exact Or.inr (Or.inr (Or.inl ⟨h1, by split <;> omega, by omega⟩))
set_option maxHeartbeats 32000000 in
set_option maxRecDepth 100000 in
theorem lo_procedure (a b : Int32) : lwI Inv T_X7_procedure T_X8_procedure [.int a, .int b] := by
  intro w h
  obtain ⟨N, Pn, E, H, hF, hT, hS⟩ := id h
  obtain ⟨hN, hP, hE, e10, e88, e9, e82, -⟩ := H.1
  have i64 : (64 : Int32).toInt = 64 := by decide
  have i8 : (8 : Int32).toInt = 8 := by decide
  have g1 : w.1 1 10 + 2 = nI (N + 2) := by
    rw [e10]
    exact nI_add N 2
  have g2 : w.1 8 8 + 2 = nI (N + 2) := by
    rw [e88]
    exact nI_add N 2
  rcases arg_k (a := a) 8 (by omega) with ⟨x, hx, ea, a1, a2, a3⟩ | ⟨a1, a3⟩ | ⟨a1, a2, a3⟩
  · rcases mn_c (b := b) ea (by omega) with ⟨y, hy4, hyx, eb, b1, b2, b3, b4, b5⟩ | ⟨b1, b3⟩ | ⟨b1, b2, b3⟩ | ⟨b1, b2, b3, b4, b5⟩
    · by_cases hP8 : Pn = 8
      · have n9 : 8 ≤ w.1 1 9 := by
          rw [e9, hP8]
          decide
        have n9' : ¬ w.1 1 9 < 8 := by
          rw [e9, hP8]
          decide
        have n82 : w.1 8 2 = 8 := by
          rw [e82, hP8]
          rfl
        ((conv => whnf); (repeat ((first | refine br_t (by decide) ?_ | refine br_f (by decide) ?_ | refine br_nt (by decide) ?_ | refine br_nf (by decide) ?_ | refine ⟨_, rfl, ?_⟩ | refine br_t (by with_reducible assumption) ?_ | refine br_f (by with_reducible assumption) ?_ | refine br_nt (by with_reducible assumption) ?_ | refine br_nf (by with_reducible assumption) ?_ | refine ⟨by with_reducible assumption, ?_⟩ | refine ⟨Or.inl rfl, ?_⟩ | refine br_t (by assumption) ?_ | refine br_f (by assumption) ?_ | refine br_nt (by assumption) ?_ | refine br_nf (by assumption) ?_ | refine ⟨by assumption, ?_⟩); (conv => whnf))); exact ⟨rfl, h⟩)
      have n9 : ¬ 8 ≤ w.1 1 9 := by
        rw [e9, i_le, nI_toInt (by omega), i8]
        omega
      have n9' : w.1 1 9 < 8 := by
        rw [e9, i_lt, nI_toInt (by omega), i8]
        omega
      have n82 : ¬ w.1 8 2 = 8 := fun z => hP8 (nI_inj (b := 8) (by omega) (by decide) (e82.symm.trans z))
      by_cases hfull : N + 2 ≤ 64
      · have hr1 : ¬ 64 < w.1 1 10 + 2 := by
          rw [g1, i_lt, nI_toInt (by omega), i64]
          omega
        have hr2 : ¬ 64 < w.1 8 8 + 2 := by
          rw [g2, i_lt, nI_toInt (by omega), i64]
          omega
        have hr3 : w.1 8 8 + 2 ≤ 64 := by
          rw [g2, i_le, nI_toInt (by omega), i64]
          omega
        exact pr_ok h H hF hT hS ea eb (by omega) hy4 hyx hfull (by omega) a1 a2 a3 b1 b2 b3 b4 b5 n9 n9' hr1 n82 hr2 hr3
      · have hr1 : 64 < w.1 1 10 + 2 := by
          rw [g1, i_lt, nI_toInt (by omega), i64]
          omega
        have hr2 : 64 < w.1 8 8 + 2 := by
          rw [g2, i_lt, nI_toInt (by omega), i64]
          omega
        have hr3 : ¬ w.1 8 8 + 2 ≤ 64 := by
          rw [g2, i_le, nI_toInt (by omega), i64]
          omega
        ((conv => whnf); (repeat ((first | refine br_t (by decide) ?_ | refine br_f (by decide) ?_ | refine br_nt (by decide) ?_ | refine br_nf (by decide) ?_ | refine ⟨_, rfl, ?_⟩ | refine br_t (by with_reducible assumption) ?_ | refine br_f (by with_reducible assumption) ?_ | refine br_nt (by with_reducible assumption) ?_ | refine br_nf (by with_reducible assumption) ?_ | refine ⟨by with_reducible assumption, ?_⟩ | refine ⟨Or.inl rfl, ?_⟩ | refine br_t (by assumption) ?_ | refine br_f (by assumption) ?_ | refine br_nt (by assumption) ?_ | refine br_nf (by assumption) ?_ | refine ⟨by assumption, ?_⟩); (conv => whnf))); exact ⟨rfl, h⟩)
    · ((conv => whnf); (repeat ((first | refine br_t (by decide) ?_ | refine br_f (by decide) ?_ | refine br_nt (by decide) ?_ | refine br_nf (by decide) ?_ | refine ⟨_, rfl, ?_⟩ | refine br_t (by with_reducible assumption) ?_ | refine br_f (by with_reducible assumption) ?_ | refine br_nt (by with_reducible assumption) ?_ | refine br_nf (by with_reducible assumption) ?_ | refine ⟨by with_reducible assumption, ?_⟩ | refine ⟨Or.inl rfl, ?_⟩ | refine br_t (by assumption) ?_ | refine br_f (by assumption) ?_ | refine br_nt (by assumption) ?_ | refine br_nf (by assumption) ?_ | refine ⟨by assumption, ?_⟩); (conv => whnf))); exact ⟨rfl, h⟩)
    · ((conv => whnf); (repeat ((first | refine br_t (by decide) ?_ | refine br_f (by decide) ?_ | refine br_nt (by decide) ?_ | refine br_nf (by decide) ?_ | refine ⟨_, rfl, ?_⟩ | refine br_t (by with_reducible assumption) ?_ | refine br_f (by with_reducible assumption) ?_ | refine br_nt (by with_reducible assumption) ?_ | refine br_nf (by with_reducible assumption) ?_ | refine ⟨by with_reducible assumption, ?_⟩ | refine ⟨Or.inl rfl, ?_⟩ | refine br_t (by assumption) ?_ | refine br_f (by assumption) ?_ | refine br_nt (by assumption) ?_ | refine br_nf (by assumption) ?_ | refine ⟨by assumption, ?_⟩); (conv => whnf))); exact ⟨rfl, h⟩)
    · ((conv => whnf); (repeat ((first | refine br_t (by decide) ?_ | refine br_f (by decide) ?_ | refine br_nt (by decide) ?_ | refine br_nf (by decide) ?_ | refine ⟨_, rfl, ?_⟩ | refine br_t (by with_reducible assumption) ?_ | refine br_f (by with_reducible assumption) ?_ | refine br_nt (by with_reducible assumption) ?_ | refine br_nf (by with_reducible assumption) ?_ | refine ⟨by with_reducible assumption, ?_⟩ | refine ⟨Or.inl rfl, ?_⟩ | refine br_t (by assumption) ?_ | refine br_f (by assumption) ?_ | refine br_nt (by assumption) ?_ | refine br_nf (by assumption) ?_ | refine ⟨by assumption, ?_⟩); (conv => whnf))); exact ⟨rfl, h⟩)
  · ((conv => whnf); (repeat ((first | refine br_t (by decide) ?_ | refine br_f (by decide) ?_ | refine br_nt (by decide) ?_ | refine br_nf (by decide) ?_ | refine ⟨_, rfl, ?_⟩ | refine br_t (by with_reducible assumption) ?_ | refine br_f (by with_reducible assumption) ?_ | refine br_nt (by with_reducible assumption) ?_ | refine br_nf (by with_reducible assumption) ?_ | refine ⟨by with_reducible assumption, ?_⟩ | refine ⟨Or.inl rfl, ?_⟩ | refine br_t (by assumption) ?_ | refine br_f (by assumption) ?_ | refine br_nt (by assumption) ?_ | refine br_nf (by assumption) ?_ | refine ⟨by assumption, ?_⟩); (conv => whnf))); exact ⟨rfl, h⟩)
  · ((conv => whnf); (repeat ((first | refine br_t (by decide) ?_ | refine br_f (by decide) ?_ | refine br_nt (by decide) ?_ | refine br_nf (by decide) ?_ | refine ⟨_, rfl, ?_⟩ | refine br_t (by with_reducible assumption) ?_ | refine br_f (by with_reducible assumption) ?_ | refine br_nt (by with_reducible assumption) ?_ | refine br_nf (by with_reducible assumption) ?_ | refine ⟨by with_reducible assumption, ?_⟩ | refine ⟨Or.inl rfl, ?_⟩ | refine br_t (by assumption) ?_ | refine br_f (by assumption) ?_ | refine br_nt (by assumption) ?_ | refine br_nf (by assumption) ?_ | refine ⟨by assumption, ?_⟩); (conv => whnf))); exact ⟨rfl, h⟩)
