theorem out_c {w : qq_w} {N p : Nat} (hp : iProc w N p) (x : Int32) (z z2 : Int32) (hz : z = w.1 9 p) (hz2 : z2 = w.1 37 p) : ((∃ y, 5 ≤ y ∧ y < 5 + qn (w.1 9 p) ∧ x = nI y) ∧ ¬ x < 5 ∧ ¬ x ≤ 0 ∧ ¬ 5 + z ≤ x ∧ (5 ≤ x ∧ x ≤ 4 + z2)) ∨ (x < 5 ∧ ¬ (5 ≤ x ∧ x ≤ 4 + z2)) ∨ (¬ x < 5 ∧ ¬ x ≤ 0 ∧ 5 + z ≤ x ∧ ¬ (5 ≤ x ∧ x ≤ 4 + z2)) := by
  subst hz hz2
  obtain ⟨a, b, l, ha, -, -, -, g9, g37, -⟩ := hp
  have e0 : (0 : Int32).toInt = 0 := by decide
  have e5' : (5 : Int32).toInt = 5 := by decide
  have e5 : (5 + w.1 9 p).toInt = 5 + a := by
    rw [g9, show (5 : Int32) + nI a = nI (5 + a) from nI_add 5 a, nI_toInt (by omega)]
    omega
  have e4 : (4 + w.1 37 p).toInt = 4 + a := by
    rw [g37, show (4 : Int32) + nI a = nI (4 + a) from nI_add 4 a, nI_toInt (by omega)]
    omega
  have hv : (∃ y, 5 ≤ y ∧ y < 5 + qn (w.1 9 p) ∧ x = nI y) ↔ (5 ≤ x.toInt ∧ x.toInt < 5 + a) := by
    rw [g9, qn_nI (by omega)]
    constructor
    · rintro ⟨y, h1, h2, rfl⟩
      rw [nI_toInt (by omega)]
      omega
    · rintro ⟨h1, h2⟩
      refine ⟨x.toInt.toNat, by omega, by omega, ?_⟩
      apply Int32.toInt_inj.mp
      rw [nI_toInt (by omega)]
      omega
  rw [hv, i_lt, i_le, i_le, i_le, i_le, e0, e4, e5, e5']
  omega
theorem iPrg_out {w w2 : qq_w} {N Pn E p : Nat} {x : Int32} (H : iPrg w N Pn E) (hp : p < Pn) (hx : x = -5 ∨ ∃ y, 5 ≤ y ∧ y < 5 + qn (w.1 9 p) ∧ x = nI y) (e11 : w2.1 11 = upd (w.1 11) p x) (e41 : w2.1 41 = upd (w.1 41) p x) (hq : ∀ q, q ∈ pgI → q ≠ 11 → q ≠ 41 → w2.1 q = w.1 q) (h8 : ∀ j, j ∈ pg8 → w2.1 8 j = w.1 8 j) (h17 : w2.2 17 = w.2 17) : iPrg w2 N Pn E := by
  -- a world with the old outcomes beside the new one
  have hs : sPg w (va_up (va_up w2.1 11 (w.1 11)) 41 (w.1 41), w2.2) := by
    refine ⟨fun q hq' => ?_, fun j hj => ?_, h17⟩
    · show va_up (va_up w2.1 11 (w.1 11)) 41 (w.1 41) q = w.1 q
      by_cases z1 : q = 41
      · subst z1
        rfl
      · by_cases z2 : q = 11
        · subst z2
          rfl
        · simp only [va_up, z1, z2, if_false]
          exact hq q hq' z2 z1
    · exact h8 j hj
  obtain ⟨a1, a2, a3, a4, a5, a6, a7⟩ := iPrg_sp hs H
  refine ⟨a1, a2, fun q hq' => ?_, a4, a5, a6, a7⟩
  obtain ⟨a, b, l, ha, hb, hba, hl, g9, g37, g10, g38, g12, g39, g40, k0, k1, k2, k3, g41, ho⟩ := a3 q hq'
  refine ⟨a, b, l, ha, hb, hba, hl, g9, g37, g10, g38, g12, g39, g40, k0, k1, k2, k3, ?_, ?_⟩
  · rw [e11, e41, upd_at, upd_at]
    have g41 : w.1 41 q = w.1 11 q := g41
    rw [g41]
  · rw [e11, upd_at]
    by_cases z : q = p
    · subst z
      rw [if_pos rfl]
      have e9 : w2.1 9 q = nI a := g9
      rw [← hq 9 (by decide) (by decide) (by decide), e9, qn_nI (by omega)] at hx
      exact hx
    · rw [if_neg z]
      exact ho
theorem lo_outcome (a b : Int32) : lwI Inv T_X7_outcome T_X8_outcome [.int a, .int b] := by
  intro w h
  obtain ⟨N, Pn, E, H, hF, hT, hS⟩ := id h
  obtain ⟨hN, hP, hE, e10, e88, e9, e82, e11, e820, -⟩ := H.1
  rcases arg_c (a := a) (by omega) e9 e82 with ⟨n, hn, ea, k1, k2, k3⟩ | ⟨k1, k3⟩ | ⟨k1, k2, k3⟩
  · have hv : vp_in a 8 := i_in 8 ea (by omega) (by decide)
    have ka : a.toNatClampNeg = n := i_c ea (by omega)
    have hpr := H.2.2.1 n hn
    have g41 : w.1 41 n = w.1 11 n := by
      obtain ⟨-, -, -, -, -, -, -, -, -, -, -, -, -, -, -, -, -, -, g41, -⟩ := hpr
      exact g41
    by_cases h5 : b = -5
    · conv => whnf
      (repeat ((first | refine br_t (by decide) ?_ | refine br_f (by decide) ?_ | refine br_nt (by decide) ?_ | refine br_nf (by decide) ?_ | refine br_t (by assumption) ?_ | refine br_f (by assumption) ?_ | refine br_nt (by assumption) ?_ | refine br_nf (by assumption) ?_ | refine ⟨_, rfl, ?_⟩ | refine ⟨Or.inl rfl, ?_⟩ | refine ⟨by assumption, ?_⟩); (conv => whnf)))
      refine ⟨?_, Inv_end (w := w) (N := N) (Pn := Pn) (E := E) hF hT hS.1 ?_ rfl rfl rfl rfl rfl rfl rfl rfl rfl rfl rfl rfl rfl rfl rfl rfl rfl rfl rfl rfl⟩
      · show some (Value.int (w.1 41 a.toNatClampNeg)) = some (Value.int (w.1 11 a.toNatClampNeg))
        rw [ka, g41]
      · refine iPrg_out H hn (Or.inl h5) (by rw [← ka]; rfl) (by rw [← ka]; rfl) (fun q hq z1 z2 => ?_) (fun j hj => ?_) rfl
        · simp only [pgI, List.mem_cons, List.not_mem_nil, or_false] at hq
          rcases hq with rfl | rfl | rfl | rfl | rfl | rfl | rfl | rfl | rfl | rfl | rfl | rfl | rfl | rfl | rfl | rfl | rfl | rfl | rfl | rfl | rfl | rfl | rfl | rfl | rfl | rfl | rfl | rfl | rfl <;> first | rfl | exact absurd rfl z1 | exact absurd rfl z2
        · simp only [pg8, List.mem_cons, List.not_mem_nil, or_false] at hj
          rcases hj with rfl | rfl | rfl | rfl | rfl | rfl <;> rfl
    · rcases out_c hpr b (w.1 9 a.toNatClampNeg) (w.1 37 a.toNatClampNeg) (by rw [ka]) (by rw [ka]) with ⟨m0, m1, m2, m3, m4⟩ | ⟨m1, m4⟩ | ⟨m1, m2, m3, m4⟩
      · conv => whnf
        (repeat ((first | refine br_t (by decide) ?_ | refine br_f (by decide) ?_ | refine br_nt (by decide) ?_ | refine br_nf (by decide) ?_ | refine br_t (by assumption) ?_ | refine br_f (by assumption) ?_ | refine br_nt (by assumption) ?_ | refine br_nf (by assumption) ?_ | refine ⟨_, rfl, ?_⟩ | refine ⟨Or.inl rfl, ?_⟩ | refine ⟨by assumption, ?_⟩); (conv => whnf)))
        refine ⟨?_, Inv_end (w := w) (N := N) (Pn := Pn) (E := E) hF hT hS.1 ?_ rfl rfl rfl rfl rfl rfl rfl rfl rfl rfl rfl rfl rfl rfl rfl rfl rfl rfl rfl rfl⟩
        · show some (Value.int (w.1 41 a.toNatClampNeg)) = some (Value.int (w.1 11 a.toNatClampNeg))
          rw [ka, g41]
        · refine iPrg_out H hn (Or.inr m0) (by rw [← ka]; rfl) (by rw [← ka]; rfl) (fun q hq z1 z2 => ?_) (fun j hj => ?_) rfl
          · simp only [pgI, List.mem_cons, List.not_mem_nil, or_false] at hq
            rcases hq with rfl | rfl | rfl | rfl | rfl | rfl | rfl | rfl | rfl | rfl | rfl | rfl | rfl | rfl | rfl | rfl | rfl | rfl | rfl | rfl | rfl | rfl | rfl | rfl | rfl | rfl | rfl | rfl | rfl <;> first | rfl | exact absurd rfl z1 | exact absurd rfl z2
          · simp only [pg8, List.mem_cons, List.not_mem_nil, or_false] at hj
            rcases hj with rfl | rfl | rfl | rfl | rfl | rfl <;> rfl
      · ((conv => whnf); (repeat ((first | refine br_t (by decide) ?_ | refine br_f (by decide) ?_ | refine br_nt (by decide) ?_ | refine br_nf (by decide) ?_ | refine br_t (by assumption) ?_ | refine br_f (by assumption) ?_ | refine br_nt (by assumption) ?_ | refine br_nf (by assumption) ?_ | refine ⟨_, rfl, ?_⟩ | refine ⟨by assumption, ?_⟩); (conv => whnf))); exact ⟨rfl, h⟩)
      · ((conv => whnf); (repeat ((first | refine br_t (by decide) ?_ | refine br_f (by decide) ?_ | refine br_nt (by decide) ?_ | refine br_nf (by decide) ?_ | refine br_t (by assumption) ?_ | refine br_f (by assumption) ?_ | refine br_nt (by assumption) ?_ | refine br_nf (by assumption) ?_ | refine ⟨_, rfl, ?_⟩ | refine ⟨by assumption, ?_⟩); (conv => whnf))); exact ⟨rfl, h⟩)
  · ((conv => whnf); (repeat ((first | refine br_t (by decide) ?_ | refine br_f (by decide) ?_ | refine br_nt (by decide) ?_ | refine br_nf (by decide) ?_ | refine br_t (by assumption) ?_ | refine br_f (by assumption) ?_ | refine br_nt (by assumption) ?_ | refine br_nf (by assumption) ?_ | refine ⟨_, rfl, ?_⟩ | refine ⟨by assumption, ?_⟩); (conv => whnf))); exact ⟨rfl, h⟩)
  · ((conv => whnf); (repeat ((first | refine br_t (by decide) ?_ | refine br_f (by decide) ?_ | refine br_nt (by decide) ?_ | refine br_nf (by decide) ?_ | refine br_t (by assumption) ?_ | refine br_f (by assumption) ?_ | refine br_nt (by assumption) ?_ | refine br_nf (by assumption) ?_ | refine ⟨_, rfl, ?_⟩ | refine ⟨by assumption, ?_⟩); (conv => whnf))); exact ⟨rfl, h⟩)
