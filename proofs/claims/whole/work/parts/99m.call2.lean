set_option maxHeartbeats 16000000 in
set_option maxRecDepth 100000 in
theorem cl_ok {w : qq_w} {N Pn E n p' m : Nat} {a b c d : Int32} (h : Inv w) (H : iPrg w N Pn E) (hF : iFnd w) (hT : iTrk w) (hS : iSol w N Pn) (hn : n < Pn) (ea : a = nI n) (hp' : p' < Pn) (eb : b = nI p') (hm : m ≤ 4) (em : d = nI m) (k1 : ¬ a < 0) (k2 : ¬ w.1 1 9 ≤ a) (k3 : 0 ≤ a ∧ a ≤ w.1 8 2 - 1) (l1 : ¬ b < 0) (l2 : ¬ w.1 1 9 ≤ b) (l3 : 0 ≤ b ∧ b ≤ w.1 8 2 - 1) (hv : vp_in a 8) (d4 : ¬ 4 < d) (d5 : d ≤ 4) (d0 : ¬ d < 0) (hr1 : ¬ 64 < w.1 1 10 + 2) (hr2 : ¬ 64 < w.1 8 8 + 2) (hr3 : w.1 8 8 + 2 ≤ 64) (hN64 : N + 2 ≤ 64) (hres : iVarO w n c) (hc : c = -5 ∨ (¬ c = -5 ∧ ¬ c ≤ 0 ∧ ¬ 5 + w.1 9 a.toNatClampNeg ≤ c ∧ 1 ≤ c ∧ c ≤ 4 + w.1 37 a.toNatClampNeg)) : T_X7_call [.ref 0, .int a, .int b, .int c, .int d] w (fun v w1 => ∃ X : Int32, v = some (.int X) ∧ T_X8_call [.ref 8, .int a, .int b, .int c, .int d] w1 (fun v' w2 => v' = some (.int X) ∧ Inv w2)) := by
  obtain ⟨hN, hP, hE, e10, e88, -⟩ := H.1
  have d0' : 0 ≤ d := (i_nlt d 0).mp d0
  have q10 : qn (w.1 1 10) = N := (iP_P H).2.2.1
  have v10 : vp_in (w.1 1 10) 63 := i_in 63 e10 (by omega) (by decide)
  have v88 : vp_in (w.1 8 8) 64 := i_in 64 e88 (by omega) (by decide)
  have g88 : w.1 8 8 + 1 = nI (N + 1) := by rw [e88, nI_1]
  have v88b : vp_in (w.1 8 8 + 1) 64 := i_in 64 g88 (by omega) (by decide)
  have f88a : w.1 8 8 + 1 - 1 = nI N := by rw [g88, nI_p1]
  have f88b : w.1 8 8 + 1 + 1 - 1 = nI (N + 1) := by rw [g88, nI_1, nI_p1]
  have w88 : vp_in (w.1 8 8 + 1 - 1) 64 := i_in 64 f88a (by omega) (by decide)
  have w88b : vp_in (w.1 8 8 + 1 + 1 - 1) 64 := i_in 64 f88b (by omega) (by decide)
  rcases hc with hc | ⟨hc, c1, c2, c3⟩
  · conv => whnf
    (repeat ((first | refine br_t (by decide) ?_ | refine br_f (by decide) ?_ | refine br_nt (by decide) ?_ | refine br_nf (by decide) ?_ | refine br_t (by with_reducible assumption) ?_ | refine br_f (by with_reducible assumption) ?_ | refine br_nt (by with_reducible assumption) ?_ | refine br_nf (by with_reducible assumption) ?_ | refine And.intro (by with_reducible assumption) ?_ | refine ⟨Or.inl rfl, ?_⟩ | refine br_t (by assumption) ?_ | refine br_f (by assumption) ?_ | refine br_nt (by assumption) ?_ | refine br_nf (by assumption) ?_ | refine And.intro (by assumption) ?_); (conv => whnf)))
    intro w1 hw1
    obtain ⟨ho, hn1, h13, h14⟩ := hw1
    conv => whnf
    (repeat ((first | refine br_t (by decide) ?_ | refine br_f (by decide) ?_ | refine br_nt (by decide) ?_ | refine br_nf (by decide) ?_ | refine br_t (by with_reducible assumption) ?_ | refine br_f (by with_reducible assumption) ?_ | refine br_nt (by with_reducible assumption) ?_ | refine br_nf (by with_reducible assumption) ?_ | refine And.intro (by with_reducible assumption) ?_ | refine ⟨Or.inl rfl, ?_⟩ | refine br_t (by assumption) ?_ | refine br_f (by assumption) ?_ | refine br_nt (by assumption) ?_ | refine br_nf (by assumption) ?_ | refine And.intro (by assumption) ?_); (conv => whnf)))
    refine ⟨_, rfl, gen_w (T := T_X8_call) (fun wT hwT => ?_)⟩
    have t8 : wT.1 8 = w.1 8 := by
      rw [hwT]
      exact ho.2 8 (by decide)
    have t37 : wT.1 37 = w.1 37 := by
      rw [hwT]
      exact ho.2 37 (by decide)
    rw [← t8] at k3 l3 hr2 hr3 v88 v88b w88 w88b
    conv => whnf
    (repeat ((first | refine br_t (by decide) ?_ | refine br_f (by decide) ?_ | refine br_nt (by decide) ?_ | refine br_nf (by decide) ?_ | refine ⟨_, rfl, ?_⟩ | refine br_t (by with_reducible assumption) ?_ | refine br_f (by with_reducible assumption) ?_ | refine br_nt (by with_reducible assumption) ?_ | refine br_nf (by with_reducible assumption) ?_ | refine ⟨by with_reducible assumption, ?_⟩ | refine ⟨Or.inl rfl, ?_⟩ | refine br_t (by assumption) ?_ | refine br_f (by assumption) ?_ | refine br_nt (by assumption) ?_ | refine br_nf (by assumption) ?_ | refine ⟨by assumption, ?_⟩); (conv => whnf)))
    refine ⟨rfl, rfl, wT.1 8 8 + 1 - 1, ⟨rfl, rfl, rfl, trivial⟩, w88, fun w2 hw2 => ?_⟩
    obtain ⟨u1, u2, u3, u4⟩ := hw2
    have kN : (wT.1 8 8).toNatClampNeg = N := by
      rw [t8]
      exact i_c e88 (by omega)
    have kM : (wT.1 8 8 + 1).toNatClampNeg = N + 1 := by
      rw [t8]
      exact i_c g88 (by omega)
    have kN' : (wT.1 8 8 + 1 - 1).toNatClampNeg = N := by
      rw [t8]
      exact i_c f88a (by omega)
    have kM' : (wT.1 8 8 + 1 + 1 - 1).toNatClampNeg = N + 1 := by
      rw [t8]
      exact i_c f88b (by omega)
    have qN' : qn (wT.1 8 8 + 1 - 1) = N := kN'
    have m13 : ∀ q, q ∉ [1, 13, 14] → q ∉ [3, 4] → wT.1 q = w.1 q := fun q z1 z2 => by
      have z3 : q ≠ 3 := fun z => z2 (by simp [z])
      have z4 : q ≠ 4 := fun z => z2 (by simp [z])
      rw [hwT, ho.2 q z1]
      simp only [qq_ui, va_up, z3, z4, if_false]
    have hn1 : ∀ j, wT.1 1 j = if j = 10 then nI (N + 2) else if j = 12 then w.1 1 12 + 1 else w.1 1 j := by
      intro j
      rw [hwT, hn1 j]
      show (if j = 10 then nI (qn (w.1 1 10) + 2) else if j = 12 then w.1 1 12 + 1 else w.1 1 j) = _
      rw [q10]
    have h13 : ∀ i j, j < 10 → wT.1 13 (10 * i + j) = if i = N then rowC a b c d N j else if i = N + 1 then rowR a N j else w.1 13 (10 * i + j) := by
      intro i j hj
      rw [hwT]
      have z := h13 i j hj
      have q10' : qn (w.1 1 10) = N := q10
      rw [show qn ((qq_ui (qq_ui (qq_ui (qq_ui w 3 7 0) 3 5 0) 3 6 0) 4 6 0).1 1 10) = N from q10] at z
      exact z
    have h14 : ∀ j, wT.1 14 j = if 4 * N ≤ j ∧ j < 4 * N + 4 then -5 else w.1 14 j := by
      intro j
      rw [hwT]
      have z := h14 j
      rw [show qn ((qq_ui (qq_ui (qq_ui (qq_ui w 3 7 0) 3 5 0) 3 6 0) 4 6 0).1 1 10) = N from q10] at z
      exact z
    refine ⟨?_, Inv_end2 (w := w) (N := N + 2) (Pn := Pn) (E := E) hF hT hS.1 (prg_call (p := n) (p' := p') (m := m) (res := c) H hN64 hn hp' hm hres (fun i j hj => ?_) (fun i => ?_) (fun i => ?_) (fun i => ?_) (fun i => ?_) (fun i => ?_) (fun i => ?_) (fun i => ?_) (fun i => ?_) (fun i => ?_) (fun j => ?_) (fun j => ?_) (fun q hq z => ?_) ?_ (fun j hj => ?_) ?_ ?_ ?_ ?_ (fun j hj z1 z2 => ?_)) ?_ ?_ ?_ ?_ ?_ (fun q hq => ?_) ?_ ?_⟩
    · show some (Value.int (wT.1 8 8 + 1 - 1)) = some (Value.int (w.1 1 10))
      rw [t8, f88a, e10]
    · rw [u2 13 (by decide) (by decide), ← ea, ← eb, ← em]
      exact h13 i j hj
    · rw [u2 42 (by decide) (by decide)]
      show upd (upd (wT.1 42) (wT.1 8 8).toNatClampNeg a) (wT.1 8 8 + 1).toNatClampNeg a i = _
      rw [upd_at, upd_at, kN, kM, m13 42 (by decide) (by decide), ← ea]
    · rw [u2 43 (by decide) (by decide)]
      show upd (upd (wT.1 43) (wT.1 8 8).toNatClampNeg 9) (wT.1 8 8 + 1).toNatClampNeg 10 i = _
      rw [upd_at, upd_at, kN, kM, m13 43 (by decide) (by decide)]
    · rw [u2 44 (by decide) (by decide)]
      show upd (upd (wT.1 44) (wT.1 8 8).toNatClampNeg (-5)) (wT.1 8 8 + 1).toNatClampNeg (-5) i = _
      rw [upd_at, upd_at, kN, kM, m13 44 (by decide) (by decide)]
    · rw [u2 45 (by decide) (by decide)]
      show upd (upd (wT.1 45) (wT.1 8 8).toNatClampNeg (-5)) (wT.1 8 8 + 1).toNatClampNeg (-5) i = _
      rw [upd_at, upd_at, kN, kM, m13 45 (by decide) (by decide)]
    · rw [u2 46 (by decide) (by decide)]
      show upd (upd (wT.1 46) (wT.1 8 8).toNatClampNeg (-5)) (wT.1 8 8 + 1).toNatClampNeg (-5) i = _
      rw [upd_at, upd_at, kN, kM, m13 46 (by decide) (by decide)]
    · rw [u2 47 (by decide) (by decide)]
      show upd (upd (upd (wT.1 47) (wT.1 8 8).toNatClampNeg (-5)) (wT.1 8 8 + 1).toNatClampNeg (-5)) (wT.1 8 8 + 1 - 1).toNatClampNeg b i = _
      rw [upd_at, upd_at, upd_at, kN, kM, kN', m13 47 (by decide) (by decide)]
      by_cases z1 : i = N
      · rw [if_pos z1, if_pos z1, eb]
      · rw [if_neg z1, if_neg z1, if_neg z1]
    · rw [u2 48 (by decide) (by decide)]
      show upd (upd (upd (wT.1 48) (wT.1 8 8).toNatClampNeg (-5)) (wT.1 8 8 + 1).toNatClampNeg (-5)) (wT.1 8 8 + 1 - 1).toNatClampNeg c i = _
      rw [upd_at, upd_at, upd_at, kN, kM, kN', m13 48 (by decide) (by decide)]
      by_cases z1 : i = N
      · rw [if_pos z1, if_pos z1]
      · rw [if_neg z1, if_neg z1, if_neg z1]
    · rw [u2 49 (by decide) (by decide)]
      show upd (upd (upd (upd (wT.1 49) (wT.1 8 8).toNatClampNeg (-5)) (wT.1 8 8 + 1).toNatClampNeg (-5)) (wT.1 8 8 + 1 - 1).toNatClampNeg (wT.1 8 8 + 1 + 1 - 1)) (wT.1 8 8 + 1 + 1 - 1).toNatClampNeg (wT.1 8 8 + 1 - 1) i = _
      rw [upd_at, upd_at, upd_at, upd_at, kN, kM, kN', kM', m13 49 (by decide) (by decide)]
      by_cases z1 : i = N + 1
      · rw [if_pos z1, if_pos z1, t8, f88a]
      · rw [if_neg z1, if_neg z1, if_neg z1]
        by_cases z2 : i = N
        · rw [if_pos z2, if_pos z2, t8, f88b]
        · rw [if_neg z2, if_neg z2, if_neg z2]
    · rw [u2 50 (by decide) (by decide)]
      show upd (upd (upd (wT.1 50) (wT.1 8 8).toNatClampNeg (-5)) (wT.1 8 8 + 1).toNatClampNeg (-5)) (wT.1 8 8 + 1 - 1).toNatClampNeg d i = _
      rw [upd_at, upd_at, upd_at, kN, kM, kN', m13 50 (by decide) (by decide)]
      by_cases z1 : i = N
      · rw [if_pos z1, if_pos z1, em]
      · rw [if_neg z1, if_neg z1, if_neg z1]
    · rw [u2 14 (by decide) (by decide)]
      exact h14 j
    · rw [u4 j, qN']
      show (if 4 * N ≤ j ∧ j < 4 * N + 4 then -5 else wT.1 51 j) = _
      rw [m13 51 (by decide) (by decide)]
    · simp only [pgI, List.mem_cons, List.not_mem_nil, or_false] at hq
      rcases hq with rfl | rfl | rfl | rfl | rfl | rfl | rfl | rfl | rfl | rfl | rfl | rfl | rfl | rfl | rfl | rfl | rfl | rfl | rfl | rfl | rfl | rfl | rfl | rfl | rfl | rfl | rfl | rfl | rfl <;> first | exact absurd (by decide) z | exact (u2 _ (by decide) (by decide)).trans (m13 _ (by decide) (by decide))
    · rw [u1]
      show wT.2 17 = _
      rw [hwT]
      exact congrFun ho.1 17
    · rw [u2 1 (by decide) (by decide)]
      show wT.1 1 j = _
      rw [hn1, if_neg (fun z => by subst z; revert hj; decide), if_neg (fun z => by subst z; revert hj; decide)]
    · rw [u2 1 (by decide) (by decide)]
      show wT.1 1 12 = _
      rw [hn1]
      rfl
    · rw [u2 1 (by decide) (by decide)]
      show wT.1 1 10 = _
      rw [hn1]
      rfl
    · rw [u3]
      show wT.1 8 8 + 1 + 1 = _
      rw [t8, g88, nI_1]
    · rw [u3]
      show wT.1 8 9 + 1 = _
      rw [t8]
    · rw [u3, ← t8]
      simp only [pg8, List.mem_cons, List.not_mem_nil, or_false] at hj
      rcases hj with rfl | rfl | rfl | rfl | rfl | rfl <;> first | rfl | exact absurd rfl z1 | exact absurd rfl z2
    · rw [u2 3 (by decide) (by decide)]
      show wT.1 3 7 = 0
      rw [hwT, ho.2 3 (by decide)]
      rfl
    · rw [u3]
      rfl
    · rw [u2 3 (by decide) (by decide)]
      show wT.1 3 5 = 0
      rw [hwT, ho.2 3 (by decide)]
      rfl
    · rw [u2 3 (by decide) (by decide)]
      show wT.1 3 6 = 0
      rw [hwT, ho.2 3 (by decide)]
      rfl
    · rw [u2 4 (by decide) (by decide)]
      show wT.1 4 6 = 0
      rw [hwT, ho.2 4 (by decide)]
      rfl
    · simp only [List.mem_cons, List.not_mem_nil, or_false] at hq
      rcases hq with rfl | rfl | rfl | rfl | rfl | rfl | rfl | rfl | rfl | rfl | rfl | rfl | rfl <;> exact (u2 _ (by decide) (by decide)).trans (m13 _ (by decide) (by decide))
    · rw [u3]
      show wT.1 8 0 = _
      rw [t8]
    · rw [u3]
      show wT.1 8 44 = _
      rw [t8]
  · conv => whnf
    (repeat ((first | refine br_t (by decide) ?_ | refine br_f (by decide) ?_ | refine br_nt (by decide) ?_ | refine br_nf (by decide) ?_ | refine br_t (by with_reducible assumption) ?_ | refine br_f (by with_reducible assumption) ?_ | refine br_nt (by with_reducible assumption) ?_ | refine br_nf (by with_reducible assumption) ?_ | refine And.intro (by with_reducible assumption) ?_ | refine ⟨Or.inl rfl, ?_⟩ | refine br_t (by assumption) ?_ | refine br_f (by assumption) ?_ | refine br_nt (by assumption) ?_ | refine br_nf (by assumption) ?_ | refine And.intro (by assumption) ?_); (conv => whnf)))
    intro w1 hw1
    obtain ⟨ho, hn1, h13, h14⟩ := hw1
    conv => whnf
    (repeat ((first | refine br_t (by decide) ?_ | refine br_f (by decide) ?_ | refine br_nt (by decide) ?_ | refine br_nf (by decide) ?_ | refine br_t (by with_reducible assumption) ?_ | refine br_f (by with_reducible assumption) ?_ | refine br_nt (by with_reducible assumption) ?_ | refine br_nf (by with_reducible assumption) ?_ | refine And.intro (by with_reducible assumption) ?_ | refine ⟨Or.inl rfl, ?_⟩ | refine br_t (by assumption) ?_ | refine br_f (by assumption) ?_ | refine br_nt (by assumption) ?_ | refine br_nf (by assumption) ?_ | refine And.intro (by assumption) ?_); (conv => whnf)))
    refine ⟨_, rfl, gen_w (T := T_X8_call) (fun wT hwT => ?_)⟩
    have t8 : wT.1 8 = w.1 8 := by
      rw [hwT]
      exact ho.2 8 (by decide)
    have t37 : wT.1 37 = w.1 37 := by
      rw [hwT]
      exact ho.2 37 (by decide)
    rw [← t8] at k3 l3 hr2 hr3 v88 v88b w88 w88b
    rw [← t37] at c3
    conv => whnf
    (repeat ((first | refine br_t (by decide) ?_ | refine br_f (by decide) ?_ | refine br_nt (by decide) ?_ | refine br_nf (by decide) ?_ | refine ⟨_, rfl, ?_⟩ | refine br_t (by with_reducible assumption) ?_ | refine br_f (by with_reducible assumption) ?_ | refine br_nt (by with_reducible assumption) ?_ | refine br_nf (by with_reducible assumption) ?_ | refine ⟨by with_reducible assumption, ?_⟩ | refine ⟨Or.inl rfl, ?_⟩ | refine br_t (by assumption) ?_ | refine br_f (by assumption) ?_ | refine br_nt (by assumption) ?_ | refine br_nf (by assumption) ?_ | refine ⟨by assumption, ?_⟩); (conv => whnf)))
    refine ⟨rfl, rfl, wT.1 8 8 + 1 - 1, ⟨rfl, rfl, rfl, trivial⟩, w88, fun w2 hw2 => ?_⟩
    obtain ⟨u1, u2, u3, u4⟩ := hw2
    have kN : (wT.1 8 8).toNatClampNeg = N := by
      rw [t8]
      exact i_c e88 (by omega)
    have kM : (wT.1 8 8 + 1).toNatClampNeg = N + 1 := by
      rw [t8]
      exact i_c g88 (by omega)
    have kN' : (wT.1 8 8 + 1 - 1).toNatClampNeg = N := by
      rw [t8]
      exact i_c f88a (by omega)
    have kM' : (wT.1 8 8 + 1 + 1 - 1).toNatClampNeg = N + 1 := by
      rw [t8]
      exact i_c f88b (by omega)
    have qN' : qn (wT.1 8 8 + 1 - 1) = N := kN'
    have m13 : ∀ q, q ∉ [1, 13, 14] → q ∉ [3, 4] → wT.1 q = w.1 q := fun q z1 z2 => by
      have z3 : q ≠ 3 := fun z => z2 (by simp [z])
      have z4 : q ≠ 4 := fun z => z2 (by simp [z])
      rw [hwT, ho.2 q z1]
      simp only [qq_ui, va_up, z3, z4, if_false]
    have hn1 : ∀ j, wT.1 1 j = if j = 10 then nI (N + 2) else if j = 12 then w.1 1 12 + 1 else w.1 1 j := by
      intro j
      rw [hwT, hn1 j]
      show (if j = 10 then nI (qn (w.1 1 10) + 2) else if j = 12 then w.1 1 12 + 1 else w.1 1 j) = _
      rw [q10]
    have h13 : ∀ i j, j < 10 → wT.1 13 (10 * i + j) = if i = N then rowC a b c d N j else if i = N + 1 then rowR a N j else w.1 13 (10 * i + j) := by
      intro i j hj
      rw [hwT]
      have z := h13 i j hj
      have q10' : qn (w.1 1 10) = N := q10
      rw [show qn ((qq_ui (qq_ui (qq_ui (qq_ui w 3 7 0) 3 5 0) 3 6 0) 4 6 0).1 1 10) = N from q10] at z
      exact z
    have h14 : ∀ j, wT.1 14 j = if 4 * N ≤ j ∧ j < 4 * N + 4 then -5 else w.1 14 j := by
      intro j
      rw [hwT]
      have z := h14 j
      rw [show qn ((qq_ui (qq_ui (qq_ui (qq_ui w 3 7 0) 3 5 0) 3 6 0) 4 6 0).1 1 10) = N from q10] at z
      exact z
    refine ⟨?_, Inv_end2 (w := w) (N := N + 2) (Pn := Pn) (E := E) hF hT hS.1 (prg_call (p := n) (p' := p') (m := m) (res := c) H hN64 hn hp' hm hres (fun i j hj => ?_) (fun i => ?_) (fun i => ?_) (fun i => ?_) (fun i => ?_) (fun i => ?_) (fun i => ?_) (fun i => ?_) (fun i => ?_) (fun i => ?_) (fun j => ?_) (fun j => ?_) (fun q hq z => ?_) ?_ (fun j hj => ?_) ?_ ?_ ?_ ?_ (fun j hj z1 z2 => ?_)) ?_ ?_ ?_ ?_ ?_ (fun q hq => ?_) ?_ ?_⟩
    · show some (Value.int (wT.1 8 8 + 1 - 1)) = some (Value.int (w.1 1 10))
      rw [t8, f88a, e10]
    · rw [u2 13 (by decide) (by decide), ← ea, ← eb, ← em]
      exact h13 i j hj
    · rw [u2 42 (by decide) (by decide)]
      show upd (upd (wT.1 42) (wT.1 8 8).toNatClampNeg a) (wT.1 8 8 + 1).toNatClampNeg a i = _
      rw [upd_at, upd_at, kN, kM, m13 42 (by decide) (by decide), ← ea]
    · rw [u2 43 (by decide) (by decide)]
      show upd (upd (wT.1 43) (wT.1 8 8).toNatClampNeg 9) (wT.1 8 8 + 1).toNatClampNeg 10 i = _
      rw [upd_at, upd_at, kN, kM, m13 43 (by decide) (by decide)]
    · rw [u2 44 (by decide) (by decide)]
      show upd (upd (wT.1 44) (wT.1 8 8).toNatClampNeg (-5)) (wT.1 8 8 + 1).toNatClampNeg (-5) i = _
      rw [upd_at, upd_at, kN, kM, m13 44 (by decide) (by decide)]
    · rw [u2 45 (by decide) (by decide)]
      show upd (upd (wT.1 45) (wT.1 8 8).toNatClampNeg (-5)) (wT.1 8 8 + 1).toNatClampNeg (-5) i = _
      rw [upd_at, upd_at, kN, kM, m13 45 (by decide) (by decide)]
    · rw [u2 46 (by decide) (by decide)]
      show upd (upd (wT.1 46) (wT.1 8 8).toNatClampNeg (-5)) (wT.1 8 8 + 1).toNatClampNeg (-5) i = _
      rw [upd_at, upd_at, kN, kM, m13 46 (by decide) (by decide)]
    · rw [u2 47 (by decide) (by decide)]
      show upd (upd (upd (wT.1 47) (wT.1 8 8).toNatClampNeg (-5)) (wT.1 8 8 + 1).toNatClampNeg (-5)) (wT.1 8 8 + 1 - 1).toNatClampNeg b i = _
      rw [upd_at, upd_at, upd_at, kN, kM, kN', m13 47 (by decide) (by decide)]
      by_cases z1 : i = N
      · rw [if_pos z1, if_pos z1, eb]
      · rw [if_neg z1, if_neg z1, if_neg z1]
    · rw [u2 48 (by decide) (by decide)]
      show upd (upd (upd (wT.1 48) (wT.1 8 8).toNatClampNeg (-5)) (wT.1 8 8 + 1).toNatClampNeg (-5)) (wT.1 8 8 + 1 - 1).toNatClampNeg c i = _
      rw [upd_at, upd_at, upd_at, kN, kM, kN', m13 48 (by decide) (by decide)]
      by_cases z1 : i = N
      · rw [if_pos z1, if_pos z1]
      · rw [if_neg z1, if_neg z1, if_neg z1]
    · rw [u2 49 (by decide) (by decide)]
      show upd (upd (upd (upd (wT.1 49) (wT.1 8 8).toNatClampNeg (-5)) (wT.1 8 8 + 1).toNatClampNeg (-5)) (wT.1 8 8 + 1 - 1).toNatClampNeg (wT.1 8 8 + 1 + 1 - 1)) (wT.1 8 8 + 1 + 1 - 1).toNatClampNeg (wT.1 8 8 + 1 - 1) i = _
      rw [upd_at, upd_at, upd_at, upd_at, kN, kM, kN', kM', m13 49 (by decide) (by decide)]
      by_cases z1 : i = N + 1
      · rw [if_pos z1, if_pos z1, t8, f88a]
      · rw [if_neg z1, if_neg z1, if_neg z1]
        by_cases z2 : i = N
        · rw [if_pos z2, if_pos z2, t8, f88b]
        · rw [if_neg z2, if_neg z2, if_neg z2]
    · rw [u2 50 (by decide) (by decide)]
      show upd (upd (upd (wT.1 50) (wT.1 8 8).toNatClampNeg (-5)) (wT.1 8 8 + 1).toNatClampNeg (-5)) (wT.1 8 8 + 1 - 1).toNatClampNeg d i = _
      rw [upd_at, upd_at, upd_at, kN, kM, kN', m13 50 (by decide) (by decide)]
      by_cases z1 : i = N
      · rw [if_pos z1, if_pos z1, em]
      · rw [if_neg z1, if_neg z1, if_neg z1]
    · rw [u2 14 (by decide) (by decide)]
      exact h14 j
    · rw [u4 j, qN']
      show (if 4 * N ≤ j ∧ j < 4 * N + 4 then -5 else wT.1 51 j) = _
      rw [m13 51 (by decide) (by decide)]
    · simp only [pgI, List.mem_cons, List.not_mem_nil, or_false] at hq
      rcases hq with rfl | rfl | rfl | rfl | rfl | rfl | rfl | rfl | rfl | rfl | rfl | rfl | rfl | rfl | rfl | rfl | rfl | rfl | rfl | rfl | rfl | rfl | rfl | rfl | rfl | rfl | rfl | rfl | rfl <;> first | exact absurd (by decide) z | exact (u2 _ (by decide) (by decide)).trans (m13 _ (by decide) (by decide))
    · rw [u1]
      show wT.2 17 = _
      rw [hwT]
      exact congrFun ho.1 17
    · rw [u2 1 (by decide) (by decide)]
      show wT.1 1 j = _
      rw [hn1, if_neg (fun z => by subst z; revert hj; decide), if_neg (fun z => by subst z; revert hj; decide)]
    · rw [u2 1 (by decide) (by decide)]
      show wT.1 1 12 = _
      rw [hn1]
      rfl
    · rw [u2 1 (by decide) (by decide)]
      show wT.1 1 10 = _
      rw [hn1]
      rfl
    · rw [u3]
      show wT.1 8 8 + 1 + 1 = _
      rw [t8, g88, nI_1]
    · rw [u3]
      show wT.1 8 9 + 1 = _
      rw [t8]
    · rw [u3, ← t8]
      simp only [pg8, List.mem_cons, List.not_mem_nil, or_false] at hj
      rcases hj with rfl | rfl | rfl | rfl | rfl | rfl <;> first | rfl | exact absurd rfl z1 | exact absurd rfl z2
    · rw [u2 3 (by decide) (by decide)]
      show wT.1 3 7 = 0
      rw [hwT, ho.2 3 (by decide)]
      rfl
    · rw [u3]
      rfl
    · rw [u2 3 (by decide) (by decide)]
      show wT.1 3 5 = 0
      rw [hwT, ho.2 3 (by decide)]
      rfl
    · rw [u2 3 (by decide) (by decide)]
      show wT.1 3 6 = 0
      rw [hwT, ho.2 3 (by decide)]
      rfl
    · rw [u2 4 (by decide) (by decide)]
      show wT.1 4 6 = 0
      rw [hwT, ho.2 4 (by decide)]
      rfl
    · simp only [List.mem_cons, List.not_mem_nil, or_false] at hq
      rcases hq with rfl | rfl | rfl | rfl | rfl | rfl | rfl | rfl | rfl | rfl | rfl | rfl | rfl <;> exact (u2 _ (by decide) (by decide)).trans (m13 _ (by decide) (by decide))
    · rw [u3]
      show wT.1 8 0 = _
      rw [t8]
    · rw [u3]
      show wT.1 8 44 = _
      rw [t8]
