theorem cl_ok {w : qq_w} {N Pn E n p' m : Nat} {a b c d : Int32} (h : Inv w) (H : iPrg w N Pn E) (hF : iFnd w) (hT : iTrk w) (hS : iSol w N Pn) (hn : n < Pn) (ea : a = nI n) (hp' : p' < Pn) (eb : b = nI p') (hm : m ≤ 4) (em : d = nI m) (k1 : ¬ a < 0) (k2 : ¬ w.1 1 9 ≤ a) (k3 : 0 ≤ a ∧ a ≤ w.1 8 2 - 1) (l1 : ¬ b < 0) (l2 : ¬ w.1 1 9 ≤ b) (l3 : 0 ≤ b ∧ b ≤ w.1 8 2 - 1) (hv : vp_in a 8) (d4 : ¬ 4 < d) (d5 : d ≤ 4) (d0 : ¬ d < 0) (hr1 : ¬ 64 < w.1 1 10 + 2) (hr2 : ¬ 64 < w.1 8 8 + 2) (hr3 : w.1 8 8 + 2 ≤ 64) (hN64 : N + 2 ≤ 64) (hres : iVarO w n c) (hc : c = -5 ∨ (¬ c = -5 ∧ ¬ c ≤ 0 ∧ ¬ 5 + w.1 9 a.toNatClampNeg ≤ c ∧ 1 ≤ c ∧ c ≤ 4 + w.1 37 a.toNatClampNeg)) : T_X7_call [.ref 0, .int a, .int b, .int c, .int d] w (fun v w1 => ∃ X : Int32, v = some (.int X) ∧ T_X8_call [.ref 8, .int a, .int b, .int c, .int d] w1 (fun v' w2 => v' = some (.int X) ∧ Inv w2)) := by
  obtain ⟨hN, hP, hE, e10, e88, -⟩ := H.1
  have d0' : 0 ≤ d := (i_nlt d 0).mp d0
  have q10 : qn (w.1 1 10) = N := (iP_P H).2.2.1
  have v10 : vp_in (w.1 1 10) 63 := i_in 63 e10 (by omega) (by decide)
  have v88 : vp_in (w.1 8 8) 64 := i_in 64 e88 (by omega) (by decide)
  have g88 : w.1 8 8 + 1 = nI (N + 1) := by rw [e88, nI_1]
  have v88b : vp_in (w.1 8 8 + 1) 64 := i_in 64 g88 (by omega) (by decide)
  have f88a : w.1 8 8 + 1 - 1 = nI N := by rw [g88, nI_p1]
  have f88b : w.1 8 8 + 1 + 1 - 1 = nI (N + 1) := by rw [g88, nI_1, nI_p1]
  have w88 : vp_in (w.1 8 8 + 1 - 1) 64 := i_in 64 f88a (by omega) (by decide)
  have w88b : vp_in (w.1 8 8 + 1 + 1 - 1) 64 := i_in 64 f88b (by omega) (by decide)
  refine cl_cls k1 k2 l1 l2 hv d4 d5 d0 d0' hr1 v10 hc (fun wT hwT => ⟨_, rfl, ?_⟩)
  obtain ⟨ho, hn1, h13, h14⟩ := hwT
  have m13 : ∀ q, q ∉ [1, 13, 14] → q ∉ [3, 4] → wT.1 q = w.1 q := fun q z1 z2 => by
    have z3 : q ≠ 3 := fun z => z2 (by simp [z])
    have z4 : q ≠ 4 := fun z => z2 (by simp [z])
    rw [ho.2 q z1]
    simp only [eW, qq_ui, va_up, z3, z4, if_false]
  have t8 : wT.1 8 = w.1 8 := m13 8 (by decide) (by decide)
  have t37 : wT.1 37 = w.1 37 := m13 37 (by decide) (by decide)
  have qe : qn ((eW w).1 1 10) = N := q10
  have hn1 : ∀ j, wT.1 1 j = if j = 10 then nI (N + 2) else if j = 12 then w.1 1 12 + 1 else w.1 1 j := by
    intro j
    rw [hn1 j, qe]
    rfl
  have h13 : ∀ i j, j < 10 → wT.1 13 (10 * i + j) = if i = N then rowC a b c d N j else if i = N + 1 then rowR a N j else w.1 13 (10 * i + j) := by
    intro i j hj
    rw [h13 i j hj, qe]
    rfl
  have h14 : ∀ j, wT.1 14 j = if 4 * N ≤ j ∧ j < 4 * N + 4 then -5 else w.1 14 j := by
    intro j
    rw [h14 j, qe]
    rfl
  refine cl_mdl (by rw [t8]; exact k3) (by rw [t8]; exact l3) hv d4 d5 d0 d0' (by rw [t8]; exact hr2) (by rw [t8]; exact hr3) (by rw [t8]; exact v88) (by rw [t8]; exact v88b) (by rw [t8]; exact w88) (by rw [t8]; exact w88b) (hc.imp id (fun z => ⟨z.1, z.2.1, by rw [m13 9 (by decide) (by decide)]; exact z.2.2.1, by rw [t37]; exact z.2.2.2⟩)) (fun w2 hw2 => ?_)
  obtain ⟨u1, u2, F42, F43, F44, F45, F46, F47, F48, F49, F50, F51, G8, G9, G27, G⟩ := hw2
  have kN : (wT.1 8 8).toNatClampNeg = N := by
    rw [t8]
    exact i_c e88 (by omega)
  have kM : (wT.1 8 8 + 1).toNatClampNeg = N + 1 := by
    rw [t8]
    exact i_c g88 (by omega)
  have kN' : (wT.1 8 8 + 1 - 1).toNatClampNeg = N := by
    rw [t8]
    exact i_c f88a (by omega)
  have kM' : (wT.1 8 8 + 1 + 1 - 1).toNatClampNeg = N + 1 := by
    rw [t8]
    exact i_c f88b (by omega)
  have qN' : qn (wT.1 8 8 + 1 - 1) = N := kN'
  refine ⟨?_, Inv_end2 (w := w) (N := N + 2) (Pn := Pn) (E := E) hF hT hS.1 (prg_call (p := n) (p' := p') (m := m) (res := c) H hN64 hn hp' hm hres (fun i j hj => ?_) (fun i => ?_) (fun i => ?_) (fun i => ?_) (fun i => ?_) (fun i => ?_) (fun i => ?_) (fun i => ?_) (fun i => ?_) (fun i => ?_) (fun j => ?_) (fun j => ?_) (fun q hq z => ?_) ?_ (fun j hj => ?_) ?_ ?_ ?_ ?_ (fun j hj z1 z2 => ?_)) ?_ ?_ ?_ ?_ ?_ (fun q hq => ?_) ?_ ?_⟩
  · rw [t8, f88a, e10]
  · rw [u2 13 (by decide), h13 i j hj, ← ea, ← eb, ← em]
  · rw [F42, upd_at, upd_at, kN, kM, m13 42 (by decide) (by decide), ← ea]
  · rw [F43, upd_at, upd_at, kN, kM, m13 43 (by decide) (by decide)]
  · rw [F44, upd_at, upd_at, kN, kM, m13 44 (by decide) (by decide)]
  · rw [F45, upd_at, upd_at, kN, kM, m13 45 (by decide) (by decide)]
  · rw [F46, upd_at, upd_at, kN, kM, m13 46 (by decide) (by decide)]
  · rw [F47, upd_at, upd_at, upd_at, kN, kM, kN', m13 47 (by decide) (by decide), eb]
    by_cases z1 : i = N
    · rw [if_pos z1, if_pos z1]
    · rw [if_neg z1, if_neg z1, if_neg z1]
  · rw [F48, upd_at, upd_at, upd_at, kN, kM, kN', m13 48 (by decide) (by decide)]
    by_cases z1 : i = N
    · rw [if_pos z1, if_pos z1]
    · rw [if_neg z1, if_neg z1, if_neg z1]
  · rw [F49, upd_at, upd_at, upd_at, upd_at, kN, kM, kN', kM', m13 49 (by decide) (by decide), t8, f88a, f88b]
    by_cases z1 : i = N + 1
    · rw [if_pos z1, if_pos z1]
    · rw [if_neg z1, if_neg z1, if_neg z1]
      by_cases z2 : i = N
      · rw [if_pos z2, if_pos z2]
      · rw [if_neg z2, if_neg z2, if_neg z2]
  · rw [F50, upd_at, upd_at, upd_at, kN, kM, kN', m13 50 (by decide) (by decide), em]
    by_cases z1 : i = N
    · rw [if_pos z1, if_pos z1]
    · rw [if_neg z1, if_neg z1, if_neg z1]
  · rw [u2 14 (by decide)]
    exact h14 j
  · rw [F51 j, qN', m13 51 (by decide) (by decide)]
  · simp only [pgI, List.mem_cons, List.not_mem_nil, or_false] at hq
    rcases hq with rfl | rfl | rfl | rfl | rfl | rfl | rfl | rfl | rfl | rfl | rfl | rfl | rfl | rfl | rfl | rfl | rfl | rfl | rfl | rfl | rfl | rfl | rfl | rfl | rfl | rfl | rfl | rfl | rfl <;> first | exact absurd (by decide) z | exact (u2 _ (by decide)).trans (m13 _ (by decide) (by decide))
  · rw [u1]
    exact congrFun ho.1 17
  · rw [u2 1 (by decide), hn1, if_neg (fun z => by subst z; revert hj; decide), if_neg (fun z => by subst z; revert hj; decide)]
  · rw [u2 1 (by decide), hn1]
    rfl
  · rw [u2 1 (by decide), hn1]
    rfl
  · rw [G8, t8, g88, nI_1]
  · rw [G9, t8]
  · rw [G j (by simp only [pg8, List.mem_cons, List.not_mem_nil, or_false] at hj ⊢; omega), t8]
  · rw [u2 3 (by decide), ho.2 3 (by decide)]
    rfl
  · exact G27
  · rw [u2 3 (by decide), ho.2 3 (by decide)]
    rfl
  · rw [u2 3 (by decide), ho.2 3 (by decide)]
    rfl
  · rw [u2 4 (by decide), ho.2 4 (by decide)]
    rfl
  · simp only [List.mem_cons, List.not_mem_nil, or_false] at hq
    rcases hq with rfl | rfl | rfl | rfl | rfl | rfl | rfl | rfl | rfl | rfl | rfl | rfl | rfl <;> exact (u2 _ (by decide)).trans (m13 _ (by decide) (by decide))
  · rw [G 0 (by decide), t8]
  · rw [G 44 (by decide), t8]
