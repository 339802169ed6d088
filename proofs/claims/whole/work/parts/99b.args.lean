theorem iPrg_arg {w w2 : qq_w} {N Pn E : Nat} (H : iPrg w N Pn E) (ha : ∀ c p, c < N → p < Pn → cX w c 1 = 9 → cX w c 0 = nI p → ∀ i, i < 4 → iVarO w p (w2.1 14 (4 * c + i)) ∧ w2.1 51 (4 * c + i) = w2.1 14 (4 * c + i)) (hq : ∀ q, q ∈ pgI → q ≠ 14 → q ≠ 51 → w2.1 q = w.1 q) (h8 : ∀ j, j ∈ pg8 → w2.1 8 j = w.1 8 j) (h17 : w2.2 17 = w.2 17) : iPrg w2 N Pn E := by
  have hs : sPg w (va_up (va_up w2.1 14 (w.1 14)) 51 (w.1 51), w2.2) := by
    refine ⟨fun q hq' => ?_, fun j hj => h8 j hj, h17⟩
    show va_up (va_up w2.1 14 (w.1 14)) 51 (w.1 51) q = w.1 q
    by_cases z1 : q = 51
    · subst z1
      rfl
    · by_cases z2 : q = 14
      · subst z2
        rfl
      · simp only [va_up, z1, z2, if_false]
        exact hq q hq' z2 z1
  obtain ⟨a1, a2, a3, a4, a5, a6, a7⟩ := iPrg_sp hs H
  refine ⟨a1, fun n hn => ?_, a3, a4, a5, a6, a7⟩
  obtain ⟨h1, p, k, hp, hk, e0, e1, K1, K2, K3, K4, ⟨K5, K5'⟩, K6⟩ := a2 n hn
  refine ⟨h1, p, k, hp, hk, e0, e1, K1, K2, K3, K4, ⟨fun z => ?_, K5'⟩, K6⟩
  obtain ⟨p', r, m, hp', hr, hm, e5, v6, e7, r1, r0, r9, e8, -⟩ := K5 z
  refine ⟨p', r, m, hp', hr, hm, e5, v6, e7, r1, r0, r9, e8, fun i hi => ?_⟩
  have e13 : w2.1 13 = w.1 13 := hq 13 (by decide) (by decide) (by decide)
  have e0' : cX w n 0 = nI p := by
    have : w2.1 13 (10 * n + 0) = nI p := e0
    rw [e13] at this
    exact this
  have e1' : cX w n 1 = 9 := by
    have : w2.1 13 (10 * n + 1) = nI k := e1
    rw [e13, z] at this
    exact this
  obtain ⟨g1, g2⟩ := ha n p hn hp e1' e0' i hi
  refine ⟨?_, g2⟩
  unfold iVarO iVar at g1 ⊢
  rw [hq 9 (by decide) (by decide) (by decide)]
  exact g1
theorem var_c2 {w : qq_w} {N p : Nat} (hp : iProc w N p) (x : Int32) (z z2 : Int32) (hz : z = w.1 9 p) (hz2 : z2 = w.1 37 p) : (iVar w p x ∧ 0 < x ∧ ¬ x ≤ 0 ∧ ¬ 5 + z ≤ x ∧ (1 ≤ x ∧ x ≤ 4 + z2)) ∨ (¬ iVar w p x ∧ x ≤ 0 ∧ ¬ (1 ≤ x ∧ x ≤ 4 + z2)) ∨ (¬ iVar w p x ∧ ¬ x ≤ 0 ∧ 5 + z ≤ x ∧ ¬ (1 ≤ x ∧ x ≤ 4 + z2)) := by
  subst hz2
  exact var_c hp x z hz
set_option maxHeartbeats 16000000 in
theorem lo_argument (a b c : Int32) : lwI Inv T_X7_argument T_X8_argument [.int a, .int b, .int c] := by
  intro w h
  obtain ⟨N, Pn, E, H, hF, hT, hS⟩ := id h
  obtain ⟨hN, hP, hE, e10, e88, e9, e82, e11, e820, -⟩ := H.1
  rcases arg_c (a := a) (by omega) e10 e88 with ⟨n, hn, ea, k1, k2, k3⟩ | ⟨k1, k3⟩ | ⟨k1, k2, k3⟩
  · have hv : vp_in a 64 := i_in 64 ea (by omega) (by decide)
    have c0 := nI_ml ea (x := 0) (i := 0) rfl (nI_lit 10)
    have v0 : vp_in (a * 10 + 0) 640 := i_in 640 c0 (by omega) (by decide)
    have c1 := nI_ml ea (x := 1) (i := 1) rfl (nI_lit 10)
    have v1 : vp_in (a * 10 + 1) 640 := i_in 640 c1 (by omega) (by decide)
    have c8 := nI_ml ea (x := 8) (i := 8) rfl (nI_lit 10)
    have v8 : vp_in (a * 10 + 8) 640 := i_in 640 c8 (by omega) (by decide)
    have ka : a.toNatClampNeg = n := i_c ea (by omega)
    have q0 : w.1 13 (a * 10 + 0).toNatClampNeg = cX w n 0 := by rw [i_c c0 (by omega)]
    have q1 : w.1 13 (a * 10 + 1).toNatClampNeg = cX w n 1 := by rw [i_c c1 (by omega)]
    have q8 : w.1 13 (a * 10 + 8).toNatClampNeg = cX w n 8 := by rw [i_c c8 (by omega)]
    have t0 : w.1 42 a.toNatClampNeg = cX w n 0 := by rw [ka, (iP_tell H hn).1]
    have t1 : w.1 43 a.toNatClampNeg = cX w n 1 := by rw [ka, (iP_tell H hn).2.1]
    have t8 : w.1 50 a.toNatClampNeg = cX w n 8 := by rw [ka, (iP_tell H hn).2.2.2.2.2.2.2.2.1]
    obtain ⟨p, k, hp, hk, e0, -⟩ := iP_kind H hn
    have hpr := H.2.2.1 p hp
    have vo : vp_in (w.1 13 (a * 10 + 0).toNatClampNeg) 8 := by
      rw [q0]
      exact i_in 8 e0 (by omega) (by decide)
    have vo' : vp_in (w.1 42 a.toNatClampNeg) 8 := by
      rw [t0]
      exact i_in 8 e0 (by omega) (by decide)
    by_cases h5 : c = -5
    · have hvar : iVarO w p c := Or.inl h5
      by_cases h9 : cX w n 1 = 9
      · have z1 : w.1 13 (a * 10 + 1).toNatClampNeg = 9 := q1.trans h9
        have z2 : w.1 43 a.toNatClampNeg = 9 := t1.trans h9
        obtain ⟨q, hq, f0, p', r, m, hp', hr, hm, e5, v6, e7, r1, r0, r9, e8, ha⟩ := iP_call H hn h9
        rcases arg_c (a := b) (N := m) (by omega) (q8.trans e8) (t8.trans e8) with ⟨j, hj, eb, m1, m2, m3⟩ | ⟨m1, m3⟩ | ⟨m1, m2, m3⟩
        · have c4 := nI_ml ea eb (nI_lit 4)
          have v4 : vp_in (a * 4 + b) 256 := i_in 256 c4 (by omega) (by decide)
          have c4' := nI_mr ea eb (nI_lit 4)
          have v4' : vp_in (4 * a + b) 256 := i_in 256 c4' (by omega) (by decide)
          conv => whnf
          (repeat ((first | refine br_t (by decide) ?_ | refine br_f (by decide) ?_ | refine br_nt (by decide) ?_ | refine br_nf (by decide) ?_ | refine ⟨_, rfl, ?_⟩ | refine br_t (by with_reducible assumption) ?_ | refine br_f (by with_reducible assumption) ?_ | refine br_nt (by with_reducible assumption) ?_ | refine br_nf (by with_reducible assumption) ?_ | refine ⟨by with_reducible assumption, ?_⟩ | refine ⟨Or.inl rfl, ?_⟩ | refine br_t (by assumption) ?_ | refine br_f (by assumption) ?_ | refine br_nt (by assumption) ?_ | refine br_nf (by assumption) ?_ | refine ⟨by assumption, ?_⟩); (conv => whnf)))
          refine ⟨rfl, Inv_end (w := w) (N := N) (Pn := Pn) (E := E) hF hT hS.1 ?_ rfl rfl rfl rfl rfl rfl rfl rfl rfl rfl rfl rfl rfl rfl rfl rfl rfl rfl rfl rfl⟩
          refine iPrg_arg H (fun c' p' hc' hp' h9' h0' i hi => ?_) (fun q hq z1 z2 => ?_) (fun j hj => ?_) rfl
          · show iVarO w p' (upd (w.1 14) (a * 4 + b).toNatClampNeg c (4 * c' + i)) ∧ upd (w.1 51) (4 * a + b).toNatClampNeg c (4 * c' + i) = upd (w.1 14) (a * 4 + b).toNatClampNeg c (4 * c' + i)
            rw [i_c c4 (by omega), i_c c4' (by omega), upd_at, upd_at]
            by_cases z : 4 * c' + i = 4 * n + j
            · obtain rfl : c' = n := by omega
              have hpp : p' = p := nI_inj (by omega) (by omega) (h0'.symm.trans e0)
              rw [if_pos z, if_pos z, hpp]
              exact ⟨hvar, rfl⟩
            · rw [if_neg z, if_neg z]
              obtain ⟨q', hq', f0', p2, r2, m2', -, -, -, -, -, -, -, -, -, -, ha2⟩ := iP_call H hc' h9'
              have hpp : p' = q' := nI_inj (by omega) (by omega) (h0'.symm.trans f0')
              rw [hpp]
              exact ha2 i hi
          · simp only [pgI, List.mem_cons, List.not_mem_nil, or_false] at hq
            rcases hq with rfl | rfl | rfl | rfl | rfl | rfl | rfl | rfl | rfl | rfl | rfl | rfl | rfl | rfl | rfl | rfl | rfl | rfl | rfl | rfl | rfl | rfl | rfl | rfl | rfl | rfl | rfl | rfl | rfl <;> first | rfl | exact absurd rfl z1 | exact absurd rfl z2
          · simp only [pg8, List.mem_cons, List.not_mem_nil, or_false] at hj
            rcases hj with rfl | rfl | rfl | rfl | rfl | rfl <;> rfl
        · have f2 := vk2
          conv => whnf
          (repeat ((first | refine br_t (by decide) ?_ | refine br_f (by decide) ?_ | refine br_nt (by decide) ?_ | refine br_nf (by decide) ?_ | refine ⟨_, rfl, ?_⟩ | refine br_t (by with_reducible assumption) ?_ | refine br_f (by with_reducible assumption) ?_ | refine br_nt (by with_reducible assumption) ?_ | refine br_nf (by with_reducible assumption) ?_ | refine ⟨by with_reducible assumption, ?_⟩ | refine ⟨Or.inl rfl, ?_⟩ | refine br_t (by assumption) ?_ | refine br_f (by assumption) ?_ | refine br_nt (by assumption) ?_ | refine br_nf (by assumption) ?_ | refine ⟨by assumption, ?_⟩); (conv => whnf)))
          exact ⟨rfl, Inv_fnd h 2 (by decide)⟩
        · have f2 := vk2
          conv => whnf
          (repeat ((first | refine br_t (by decide) ?_ | refine br_f (by decide) ?_ | refine br_nt (by decide) ?_ | refine br_nf (by decide) ?_ | refine ⟨_, rfl, ?_⟩ | refine br_t (by with_reducible assumption) ?_ | refine br_f (by with_reducible assumption) ?_ | refine br_nt (by with_reducible assumption) ?_ | refine br_nf (by with_reducible assumption) ?_ | refine ⟨by with_reducible assumption, ?_⟩ | refine ⟨Or.inl rfl, ?_⟩ | refine br_t (by assumption) ?_ | refine br_f (by assumption) ?_ | refine br_nt (by assumption) ?_ | refine br_nf (by assumption) ?_ | refine ⟨by assumption, ?_⟩); (conv => whnf)))
          exact ⟨rfl, Inv_fnd h 2 (by decide)⟩
      · have z1 : ¬ w.1 13 (a * 10 + 1).toNatClampNeg = 9 := fun z => h9 (q1.symm.trans z)
        have z2 : ¬ w.1 43 a.toNatClampNeg = 9 := fun z => h9 (t1.symm.trans z)
        have f3 := vk3
        conv => whnf
        (repeat ((first | refine br_t (by decide) ?_ | refine br_f (by decide) ?_ | refine br_nt (by decide) ?_ | refine br_nf (by decide) ?_ | refine ⟨_, rfl, ?_⟩ | refine br_t (by with_reducible assumption) ?_ | refine br_f (by with_reducible assumption) ?_ | refine br_nt (by with_reducible assumption) ?_ | refine br_nf (by with_reducible assumption) ?_ | refine ⟨by with_reducible assumption, ?_⟩ | refine ⟨Or.inl rfl, ?_⟩ | refine br_t (by assumption) ?_ | refine br_f (by assumption) ?_ | refine br_nt (by assumption) ?_ | refine br_nf (by assumption) ?_ | refine ⟨by assumption, ?_⟩); (conv => whnf)))
        exact ⟨rfl, Inv_fnd h 3 (by decide)⟩
    · rcases var_c2 hpr c (w.1 9 (w.1 13 (a * 10 + 0).toNatClampNeg).toNatClampNeg) (w.1 37 (w.1 42 a.toNatClampNeg).toNatClampNeg) (by rw [q0, e0, nI_clamp (by omega)]) (by rw [t0, e0, nI_clamp (by omega)]) with ⟨hvar', x1, x2, x3, x4⟩ | ⟨hvar', x2, x4⟩ | ⟨hvar', x2, x3, x4⟩
      · have hvar : iVarO w p c := Or.inr hvar'
        by_cases h9 : cX w n 1 = 9
        · have z1 : w.1 13 (a * 10 + 1).toNatClampNeg = 9 := q1.trans h9
          have z2 : w.1 43 a.toNatClampNeg = 9 := t1.trans h9
          obtain ⟨q, hq, f0, p', r, m, hp', hr, hm, e5, v6, e7, r1, r0, r9, e8, ha⟩ := iP_call H hn h9
          rcases arg_c (a := b) (N := m) (by omega) (q8.trans e8) (t8.trans e8) with ⟨j, hj, eb, m1, m2, m3⟩ | ⟨m1, m3⟩ | ⟨m1, m2, m3⟩
          · have c4 := nI_ml ea eb (nI_lit 4)
            have v4 : vp_in (a * 4 + b) 256 := i_in 256 c4 (by omega) (by decide)
            have c4' := nI_mr ea eb (nI_lit 4)
            have v4' : vp_in (4 * a + b) 256 := i_in 256 c4' (by omega) (by decide)
            conv => whnf
            (repeat ((first | refine br_t (by decide) ?_ | refine br_f (by decide) ?_ | refine br_nt (by decide) ?_ | refine br_nf (by decide) ?_ | refine ⟨_, rfl, ?_⟩ | refine br_t (by with_reducible assumption) ?_ | refine br_f (by with_reducible assumption) ?_ | refine br_nt (by with_reducible assumption) ?_ | refine br_nf (by with_reducible assumption) ?_ | refine ⟨by with_reducible assumption, ?_⟩ | refine ⟨Or.inl rfl, ?_⟩ | refine br_t (by assumption) ?_ | refine br_f (by assumption) ?_ | refine br_nt (by assumption) ?_ | refine br_nf (by assumption) ?_ | refine ⟨by assumption, ?_⟩); (conv => whnf)))
            refine ⟨rfl, Inv_end (w := w) (N := N) (Pn := Pn) (E := E) hF hT hS.1 ?_ rfl rfl rfl rfl rfl rfl rfl rfl rfl rfl rfl rfl rfl rfl rfl rfl rfl rfl rfl rfl⟩
            refine iPrg_arg H (fun c' p' hc' hp' h9' h0' i hi => ?_) (fun q hq z1 z2 => ?_) (fun j hj => ?_) rfl
            · show iVarO w p' (upd (w.1 14) (a * 4 + b).toNatClampNeg c (4 * c' + i)) ∧ upd (w.1 51) (4 * a + b).toNatClampNeg c (4 * c' + i) = upd (w.1 14) (a * 4 + b).toNatClampNeg c (4 * c' + i)
              rw [i_c c4 (by omega), i_c c4' (by omega), upd_at, upd_at]
              by_cases z : 4 * c' + i = 4 * n + j
              · obtain rfl : c' = n := by omega
                have hpp : p' = p := nI_inj (by omega) (by omega) (h0'.symm.trans e0)
                rw [if_pos z, if_pos z, hpp]
                exact ⟨hvar, rfl⟩
              · rw [if_neg z, if_neg z]
                obtain ⟨q', hq', f0', p2, r2, m2', -, -, -, -, -, -, -, -, -, -, ha2⟩ := iP_call H hc' h9'
                have hpp : p' = q' := nI_inj (by omega) (by omega) (h0'.symm.trans f0')
                rw [hpp]
                exact ha2 i hi
            · simp only [pgI, List.mem_cons, List.not_mem_nil, or_false] at hq
              rcases hq with rfl | rfl | rfl | rfl | rfl | rfl | rfl | rfl | rfl | rfl | rfl | rfl | rfl | rfl | rfl | rfl | rfl | rfl | rfl | rfl | rfl | rfl | rfl | rfl | rfl | rfl | rfl | rfl | rfl <;> first | rfl | exact absurd rfl z1 | exact absurd rfl z2
            · simp only [pg8, List.mem_cons, List.not_mem_nil, or_false] at hj
              rcases hj with rfl | rfl | rfl | rfl | rfl | rfl <;> rfl
          · have f2 := vk2
            conv => whnf
            (repeat ((first | refine br_t (by decide) ?_ | refine br_f (by decide) ?_ | refine br_nt (by decide) ?_ | refine br_nf (by decide) ?_ | refine ⟨_, rfl, ?_⟩ | refine br_t (by with_reducible assumption) ?_ | refine br_f (by with_reducible assumption) ?_ | refine br_nt (by with_reducible assumption) ?_ | refine br_nf (by with_reducible assumption) ?_ | refine ⟨by with_reducible assumption, ?_⟩ | refine ⟨Or.inl rfl, ?_⟩ | refine br_t (by assumption) ?_ | refine br_f (by assumption) ?_ | refine br_nt (by assumption) ?_ | refine br_nf (by assumption) ?_ | refine ⟨by assumption, ?_⟩); (conv => whnf)))
            exact ⟨rfl, Inv_fnd h 2 (by decide)⟩
          · have f2 := vk2
            conv => whnf
            (repeat ((first | refine br_t (by decide) ?_ | refine br_f (by decide) ?_ | refine br_nt (by decide) ?_ | refine br_nf (by decide) ?_ | refine ⟨_, rfl, ?_⟩ | refine br_t (by with_reducible assumption) ?_ | refine br_f (by with_reducible assumption) ?_ | refine br_nt (by with_reducible assumption) ?_ | refine br_nf (by with_reducible assumption) ?_ | refine ⟨by with_reducible assumption, ?_⟩ | refine ⟨Or.inl rfl, ?_⟩ | refine br_t (by assumption) ?_ | refine br_f (by assumption) ?_ | refine br_nt (by assumption) ?_ | refine br_nf (by assumption) ?_ | refine ⟨by assumption, ?_⟩); (conv => whnf)))
            exact ⟨rfl, Inv_fnd h 2 (by decide)⟩
        · have z1 : ¬ w.1 13 (a * 10 + 1).toNatClampNeg = 9 := fun z => h9 (q1.symm.trans z)
          have z2 : ¬ w.1 43 a.toNatClampNeg = 9 := fun z => h9 (t1.symm.trans z)
          have f3 := vk3
          conv => whnf
          (repeat ((first | refine br_t (by decide) ?_ | refine br_f (by decide) ?_ | refine br_nt (by decide) ?_ | refine br_nf (by decide) ?_ | refine ⟨_, rfl, ?_⟩ | refine br_t (by with_reducible assumption) ?_ | refine br_f (by with_reducible assumption) ?_ | refine br_nt (by with_reducible assumption) ?_ | refine br_nf (by with_reducible assumption) ?_ | refine ⟨by with_reducible assumption, ?_⟩ | refine ⟨Or.inl rfl, ?_⟩ | refine br_t (by assumption) ?_ | refine br_f (by assumption) ?_ | refine br_nt (by assumption) ?_ | refine br_nf (by assumption) ?_ | refine ⟨by assumption, ?_⟩); (conv => whnf)))
          exact ⟨rfl, Inv_fnd h 3 (by decide)⟩
      · ((conv => whnf); (repeat ((first | refine br_t (by decide) ?_ | refine br_f (by decide) ?_ | refine br_nt (by decide) ?_ | refine br_nf (by decide) ?_ | refine ⟨_, rfl, ?_⟩ | refine br_t (by with_reducible assumption) ?_ | refine br_f (by with_reducible assumption) ?_ | refine br_nt (by with_reducible assumption) ?_ | refine br_nf (by with_reducible assumption) ?_ | refine ⟨by with_reducible assumption, ?_⟩ | refine ⟨Or.inl rfl, ?_⟩ | refine br_t (by assumption) ?_ | refine br_f (by assumption) ?_ | refine br_nt (by assumption) ?_ | refine br_nf (by assumption) ?_ | refine ⟨by assumption, ?_⟩); (conv => whnf))); exact ⟨rfl, h⟩)
      · ((conv => whnf); (repeat ((first | refine br_t (by decide) ?_ | refine br_f (by decide) ?_ | refine br_nt (by decide) ?_ | refine br_nf (by decide) ?_ | refine ⟨_, rfl, ?_⟩ | refine br_t (by with_reducible assumption) ?_ | refine br_f (by with_reducible assumption) ?_ | refine br_nt (by with_reducible assumption) ?_ | refine br_nf (by with_reducible assumption) ?_ | refine ⟨by with_reducible assumption, ?_⟩ | refine ⟨Or.inl rfl, ?_⟩ | refine br_t (by assumption) ?_ | refine br_f (by assumption) ?_ | refine br_nt (by assumption) ?_ | refine br_nf (by assumption) ?_ | refine ⟨by assumption, ?_⟩); (conv => whnf))); exact ⟨rfl, h⟩)
  · ((conv => whnf); (repeat ((first | refine br_t (by decide) ?_ | refine br_f (by decide) ?_ | refine br_nt (by decide) ?_ | refine br_nf (by decide) ?_ | refine ⟨_, rfl, ?_⟩ | refine br_t (by with_reducible assumption) ?_ | refine br_f (by with_reducible assumption) ?_ | refine br_nt (by with_reducible assumption) ?_ | refine br_nf (by with_reducible assumption) ?_ | refine ⟨by with_reducible assumption, ?_⟩ | refine ⟨Or.inl rfl, ?_⟩ | refine br_t (by assumption) ?_ | refine br_f (by assumption) ?_ | refine br_nt (by assumption) ?_ | refine br_nf (by assumption) ?_ | refine ⟨by assumption, ?_⟩); (conv => whnf))); exact ⟨rfl, h⟩)
  · ((conv => whnf); (repeat ((first | refine br_t (by decide) ?_ | refine br_f (by decide) ?_ | refine br_nt (by decide) ?_ | refine br_nf (by decide) ?_ | refine ⟨_, rfl, ?_⟩ | refine br_t (by with_reducible assumption) ?_ | refine br_f (by with_reducible assumption) ?_ | refine br_nt (by with_reducible assumption) ?_ | refine br_nf (by with_reducible assumption) ?_ | refine ⟨by with_reducible assumption, ?_⟩ | refine ⟨Or.inl rfl, ?_⟩ | refine br_t (by assumption) ?_ | refine br_f (by assumption) ?_ | refine br_nt (by assumption) ?_ | refine br_nf (by assumption) ?_ | refine ⟨by assumption, ?_⟩); (conv => whnf))); exact ⟨rfl, h⟩)
