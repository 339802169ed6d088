/-! THE CALLS that change the program -/
theorem Inv_end {w w2 : qq_w} {N Pn E : Nat} (hF : iFnd w) (hT : iTrk w) (hS : ∀ j, fs (w.1 19 j)) (H2 : iPrg w2 N Pn E) (k37 : w2.1 3 7 = 0) (k27 : w2.1 8 27 = 0) (k35 : w2.1 3 5 = 0) (k36 : w2.1 3 6 = 0) (k46 : w2.1 4 6 = 0) (k19 : w2.1 19 = w.1 19) (k80 : w2.1 8 0 = w.1 8 0) (k61 : w2.1 6 1 = w.1 6 1) (k36' : w2.1 36 = w.1 36) (k32 : w2.1 32 = w.1 32) (k44 : w2.1 8 44 = w.1 8 44) (k57 : w2.1 5 7 = w.1 5 7) (k25 : w2.1 25 = w.1 25) (k26 : w2.1 26 = w.1 26) (k27' : w2.1 27 = w.1 27) (k28 : w2.1 28 = w.1 28) (k611 : w2.1 61 = w.1 61) (k62 : w2.1 62 = w.1 62) (k63 : w2.1 63 = w.1 63) (k64 : w2.1 64 = w.1 64) : Inv w2 := by
  refine ⟨N, Pn, E, H2, iFnd_eq k80 k61 k36' k32 hF, iTrk_eq k44 k57 (fun q hq => ?_) hT, by rw [k19]; exact hS, Or.inl ⟨k37, k27, k35, k36, k46⟩⟩
  simp only [List.mem_cons, List.not_mem_nil, or_false] at hq
  rcases hq with rfl | rfl | rfl | rfl | rfl | rfl | rfl | rfl <;> assumption
theorem lo_client (a : Int32) : lwI Inv T_X7_client T_X8_client [.int a] := by
  intro w h
  obtain ⟨N, Pn, E, H, hF, hT, hS⟩ := id h
  rcases arg_k (a := a) 2 (by omega) with ⟨n, hn, ea, m1, m2, m3⟩ | ⟨m1, m3⟩ | ⟨m1, m2, m3⟩
  · conv => whnf
    (repeat ((first | refine br_t (by decide) ?_ | refine br_f (by decide) ?_ | refine br_nt (by decide) ?_ | refine br_nf (by decide) ?_ | refine br_t (by assumption) ?_ | refine br_f (by assumption) ?_ | refine br_nt (by assumption) ?_ | refine br_nf (by assumption) ?_ | refine ⟨_, rfl, ?_⟩ | refine ⟨Or.inl rfl, ?_⟩ | refine ⟨by assumption, ?_⟩); (conv => whnf)))
    refine ⟨?_, Inv_end (w := w) (N := N) (Pn := Pn) (E := E) hF hT hS.1 ?_ rfl rfl rfl rfl rfl rfl rfl rfl rfl rfl rfl rfl rfl rfl rfl rfl rfl rfl rfl rfl⟩
    · show some (Value.int (w.1 8 23)) = some (Value.int (w.1 2 2))
      rw [(iP_cli H).1]
    · obtain ⟨a1, a2, a3, a4, a5, a6, a7⟩ := H
      exact ⟨a1, a2, a3, a4, a5, a6, ⟨n, hn, ea, ea⟩, a7.2⟩
  · ((conv => whnf); (repeat ((first | refine br_t (by decide) ?_ | refine br_f (by decide) ?_ | refine br_nt (by decide) ?_ | refine br_nf (by decide) ?_ | refine br_t (by assumption) ?_ | refine br_f (by assumption) ?_ | refine br_nt (by assumption) ?_ | refine br_nf (by assumption) ?_ | refine ⟨_, rfl, ?_⟩ | refine ⟨by assumption, ?_⟩); (conv => whnf))); exact ⟨rfl, h⟩)
  · ((conv => whnf); (repeat ((first | refine br_t (by decide) ?_ | refine br_f (by decide) ?_ | refine br_nt (by decide) ?_ | refine br_nf (by decide) ?_ | refine br_t (by assumption) ?_ | refine br_f (by assumption) ?_ | refine br_nt (by assumption) ?_ | refine br_nf (by assumption) ?_ | refine ⟨_, rfl, ?_⟩ | refine ⟨by assumption, ?_⟩); (conv => whnf))); exact ⟨rfl, h⟩)
theorem lo_begin (a : Int32) : lwI Inv T_X7_begin T_X8_begin [.int a] := by
  intro w h
  obtain ⟨N, Pn, E, H, hF, hT, hS⟩ := id h
  rcases arg_k (a := a) 8191 (by omega) with ⟨n, hn, ea, m1, m2, m3⟩ | ⟨m1, m3⟩ | ⟨m1, m2, m3⟩
  · conv => whnf
    (repeat ((first | refine br_t (by decide) ?_ | refine br_f (by decide) ?_ | refine br_nt (by decide) ?_ | refine br_nf (by decide) ?_ | refine br_t (by assumption) ?_ | refine br_f (by assumption) ?_ | refine br_nt (by assumption) ?_ | refine br_nf (by assumption) ?_ | refine ⟨_, rfl, ?_⟩ | refine ⟨Or.inl rfl, ?_⟩ | refine ⟨by assumption, ?_⟩); (conv => whnf)))
    refine ⟨?_, Inv_end (w := w) (N := N) (Pn := Pn) (E := E) hF hT hS.1 ?_ rfl rfl rfl rfl rfl rfl rfl rfl rfl rfl rfl rfl rfl rfl rfl rfl rfl rfl rfl rfl⟩
    · obtain ⟨-, b, hb, d1, d2⟩ := H.2.2.2.2.2.2
      show some (Value.int (w.1 8 25)) = some (Value.int (w.1 2 3))
      rw [d1, d2]
    · obtain ⟨a1, a2, a3, a4, a5, a6, a7⟩ := H
      exact ⟨a1, a2, a3, a4, a5, a6, a7.1, n, hn, ea, ea⟩
  · ((conv => whnf); (repeat ((first | refine br_t (by decide) ?_ | refine br_f (by decide) ?_ | refine br_nt (by decide) ?_ | refine br_nf (by decide) ?_ | refine br_t (by assumption) ?_ | refine br_f (by assumption) ?_ | refine br_nt (by assumption) ?_ | refine br_nf (by assumption) ?_ | refine ⟨_, rfl, ?_⟩ | refine ⟨by assumption, ?_⟩); (conv => whnf))); exact ⟨rfl, h⟩)
  · ((conv => whnf); (repeat ((first | refine br_t (by decide) ?_ | refine br_f (by decide) ?_ | refine br_nt (by decide) ?_ | refine br_nf (by decide) ?_ | refine br_t (by assumption) ?_ | refine br_f (by assumption) ?_ | refine br_nt (by assumption) ?_ | refine br_nf (by assumption) ?_ | refine ⟨_, rfl, ?_⟩ | refine ⟨by assumption, ?_⟩); (conv => whnf))); exact ⟨rfl, h⟩)
theorem var_c {w : qq_w} {N p : Nat} (hp : iProc w N p) (x : Int32) (z : Int32) (hz : z = w.1 9 p) : (iVar w p x ∧ 0 < x ∧ ¬ x ≤ 0 ∧ ¬ 5 + z ≤ x ∧ (1 ≤ x ∧ x ≤ 4 + w.1 37 p)) ∨ (¬ iVar w p x ∧ x ≤ 0 ∧ ¬ (1 ≤ x ∧ x ≤ 4 + w.1 37 p)) ∨ (¬ iVar w p x ∧ ¬ x ≤ 0 ∧ 5 + z ≤ x ∧ ¬ (1 ≤ x ∧ x ≤ 4 + w.1 37 p)) := by
  subst hz
  obtain ⟨a, b, l, ha, -, -, -, g9, g37, -⟩ := hp
  have e0 : (0 : Int32).toInt = 0 := by decide
  have e1 : (1 : Int32).toInt = 1 := by decide
  have e5 : (5 + w.1 9 p).toInt = 5 + a := by
    rw [g9, show (5 : Int32) + nI a = nI (5 + a) from nI_add 5 a, nI_toInt (by omega)]
    omega
  have e4 : (4 + w.1 37 p).toInt = 4 + a := by
    rw [g37, show (4 : Int32) + nI a = nI (4 + a) from nI_add 4 a, nI_toInt (by omega)]
    omega
  have hv : iVar w p x ↔ (1 ≤ x.toInt ∧ x.toInt < 5 + a) := by
    unfold iVar
    rw [g9, qn_nI (by omega)]
    constructor
    · rintro ⟨y, h1, h2, rfl⟩
      rw [nI_toInt (by omega)]
      omega
    · rintro ⟨h1, h2⟩
      refine ⟨x.toInt.toNat, by omega, by omega, ?_⟩
      apply Int32.toInt_inj.mp
      rw [nI_toInt (by omega)]
      omega
  rw [hv, i_lt, i_le, i_le, i_le, i_le, e0, e1, e4, e5]
  omega
