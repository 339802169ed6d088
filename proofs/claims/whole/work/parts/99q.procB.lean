theorem pr_ok {w : qq_w} {N Pn E x y : Nat} {a b : Int32} (h : Inv w) (H : iPrg w N Pn E) (hF : iFnd w) (hT : iTrk w) (hS : iSol w N Pn) (ea : a = nI x) (eb : b = nI y) (hx8 : x ≤ 8) (hy4 : y ≤ 4) (hyx : y ≤ x) (hN64 : N + 2 ≤ 64) (hP8 : Pn < 8) (a1 : ¬ a < 0) (a2 : ¬ 9 ≤ a) (a3 : 0 ≤ a ∧ a ≤ 8) (b1 : ¬ b < 0) (b2 : ¬ (if 4 < a then 4 else a) + 1 ≤ b) (b3 : 0 ≤ b ∧ b ≤ 4) (b4 : ¬ a < b) (b5 : b ≤ a) (n9 : ¬ 8 ≤ w.1 1 9) (n9' : w.1 1 9 < 8) (hr1 : ¬ 64 < w.1 1 10 + 2) (n82 : ¬ w.1 8 2 = 8) (hr2 : ¬ 64 < w.1 8 8 + 2) (hr3 : w.1 8 8 + 2 ≤ 64) : T_X7_procedure [.ref 0, .int a, .int b] w (fun v w1 => ∃ X : Int32, v = some (.int X) ∧ T_X8_procedure [.ref 8, .int a, .int b] w1 (fun v' w2 => v' = some (.int X) ∧ Inv w2)) := by
  obtain ⟨hN, hP, hE, e10, e88, e9, e82, -⟩ := H.1
  have q10 : qn (w.1 1 10) = N := (iP_P H).2.2.1
  have v9 : vp_in (w.1 1 9) 8 := i_in 8 e9 hP8 (by decide)
  have v82 : vp_in (w.1 8 2) 8 := i_in 8 e82 hP8 (by decide)
  have v10 : vp_in (w.1 1 10) 64 := i_in 64 e10 (by omega) (by decide)
  have g10 : w.1 1 10 + 1 = nI (N + 1) := by rw [e10, nI_1]
  have v10b : vp_in (w.1 1 10 + 1) 64 := i_in 64 g10 (by omega) (by decide)
  have v88 : vp_in (w.1 8 8) 64 := i_in 64 e88 (by omega) (by decide)
  have g88 : w.1 8 8 + 1 = nI (N + 1) := by rw [e88, nI_1]
  have v88b : vp_in (w.1 8 8 + 1) 64 := i_in 64 g88 (by omega) (by decide)
  refine pr_cls (N := N) a1 a2 b1 b2 n9 n9' hr1 v9 v10 v10b (fun w1 wT hw1 hw3 => ⟨_, rfl, ?_⟩)
  obtain ⟨ho, hn1, h13⟩ := hw1
  obtain ⟨ho3, hn3, h133⟩ := hw3
  have e110 : w1.1 1 10 = nI (N + 1) := by
    rw [hn1]
    exact g10
  have m13 : ∀ q, q ∉ [1, 13] → q ∉ [3, 4, 9, 10, 11, 12] → wT.1 q = w.1 q := fun q z1 z2 => by
    have z3 : q ≠ 3 := fun z => z2 (by simp [z])
    have z4 : q ≠ 4 := fun z => z2 (by simp [z])
    have z9 : q ≠ 9 := fun z => z2 (by simp [z])
    have z10 : q ≠ 10 := fun z => z2 (by simp [z])
    have z11 : q ≠ 11 := fun z => z2 (by simp [z])
    have z12 : q ≠ 12 := fun z => z2 (by simp [z])
    have y1 : q ≠ 1 := fun z => z1 (by simp [z])
    rw [ho3.2 q z1]
    simp only [qq_ui, va_up, z12, if_false]
    rw [ho.2 q z1]
    simp only [eW, qq_ui, va_up, z3, z4, z9, z10, z11, y1, if_false]
  have t8 : wT.1 8 = w.1 8 := m13 8 (by decide) (by decide)
  have kP : (w.1 1 9).toNatClampNeg = Pn := i_c e9 (by omega)
  have c9 : wT.1 9 = upd (w.1 9) Pn a := by
    rw [ho3.2 9 (by decide), ← kP]
    exact ho.2 9 (by decide)
  have c10 : wT.1 10 = upd (w.1 10) Pn b := by
    rw [ho3.2 10 (by decide), ← kP]
    exact ho.2 10 (by decide)
  have c11 : wT.1 11 = upd (w.1 11) Pn (-5) := by
    rw [ho3.2 11 (by decide), ← kP]
    exact ho.2 11 (by decide)
  have c12 : wT.1 12 = upd (w.1 12) Pn (w.1 1 10) := by
    rw [ho3.2 12 (by decide), ← kP]
    show upd (w1.1 12) _ _ = _
    rw [ho.2 12 (by decide)]
    rfl
  have c1 : ∀ j, wT.1 1 j = if j = 10 then nI (N + 2) else if j = 9 then nI (Pn + 1) else w.1 1 j := by
    intro j
    rw [hn3]
    show upd (w1.1 1) 10 (w1.1 1 10 + 1) j = _
    rw [upd_at, e110, nI_1, hn1]
    show (if j = 10 then nI (N + 2) else upd (upd (w.1 1) 9 (w.1 1 9 + 1)) 10 _ j) = _
    rw [upd_at, upd_at, e9, nI_1]
    split <;> rfl
  have q110 : qn (w1.1 1 10) = N + 1 := by rw [e110, qn_nI (by omega)]
  have c13 : ∀ i j, j < 10 → wT.1 13 (10 * i + j) = if i = N + 1 then rowE (w.1 1 9) 1 j else if i = N then rowE (w.1 1 9) 0 j else w.1 13 (10 * i + j) := by
    intro i j hj
    rw [h133 (10 * i + j)]
    show (if (10 * i + j) / 10 = qn (w1.1 1 10) then (if (10 * i + j) % 10 = 0 then w.1 1 9 else if (10 * i + j) % 10 = 1 then 1 else -5) else w1.1 13 (10 * i + j)) = _
    rw [q110, h13 (10 * i + j), show (10 * i + j) / 10 = i by omega, show (10 * i + j) % 10 = j by omega]
    show (if i = N + 1 then (if j = 0 then w.1 1 9 else if j = 1 then 1 else -5) else if i = qn (w.1 1 10) then (if j = 0 then w.1 1 9 else if j = 1 then 0 else -5) else w.1 13 (10 * i + j)) = _
    rw [q10]
    rfl
  refine pr_mdl a3 b3 b4 b5 (by rw [t8]; exact n82) (by rw [t8]; exact hr2) (by rw [t8]; exact hr3) (by rw [t8]; exact v82) (by rw [t8]; exact v88) (by rw [t8]; exact v88b) (fun w2 hw2 => ?_)
  obtain ⟨u1, u2, F42, F43, F44, F45, F46, F47, F48, F49, F50, F37, F38, F41, F39, F40, G8, G2, G27, G⟩ := hw2
  have kN : (wT.1 8 8).toNatClampNeg = N := by
    rw [t8]
    exact i_c e88 (by omega)
  have kM : (wT.1 8 8 + 1).toNatClampNeg = N + 1 := by
    rw [t8]
    exact i_c g88 (by omega)
  have kP8 : (wT.1 8 2).toNatClampNeg = Pn := by
    rw [t8]
    exact i_c e82 (by omega)
  refine ⟨?_, Inv_end2 (w := w) (N := N + 2) (Pn := Pn + 1) (E := E) hF hT hS.1 (prg_proc (a := x) (b := y) H hN64 hP8 hx8 hy4 hyx (fun i j hj => ?_) (fun i => ?_) (fun i => ?_) (fun i => ?_) (fun i => ?_) (fun i => ?_) (fun i => ?_) (fun i => ?_) (fun i => ?_) (fun i => ?_) (fun p => ?_) (fun p => ?_) (fun p => ?_) (fun p => ?_) (fun p => ?_) (fun p => ?_) (fun p => ?_) (fun p => ?_) (fun p => ?_) (fun q hq => ?_) ?_ (fun j hj => ?_) ?_ ?_ ?_ ?_ (fun j hj => ?_)) ?_ ?_ ?_ ?_ ?_ (fun q hq => ?_) ?_ ?_⟩
  · rw [t8, e82, e9, nI_1, nI_p1]
  · rw [u2 13 (by decide), ← e9]
    exact c13 i j hj
  · rw [F42, upd_at, upd_at, kN, kM, m13 42 (by decide) (by decide), t8, e82]
  · rw [F43, upd_at, upd_at, kN, kM, m13 43 (by decide) (by decide)]
  · rw [F44, upd_at, upd_at, kN, kM, m13 44 (by decide) (by decide)]
  · rw [F45, upd_at, upd_at, kN, kM, m13 45 (by decide) (by decide)]
  · rw [F46, upd_at, upd_at, kN, kM, m13 46 (by decide) (by decide)]
  · rw [F47, upd_at, upd_at, kN, kM, m13 47 (by decide) (by decide)]
  · rw [F48, upd_at, upd_at, kN, kM, m13 48 (by decide) (by decide)]
  · rw [F49, upd_at, upd_at, kN, kM, m13 49 (by decide) (by decide)]
  · rw [F50, upd_at, upd_at, kN, kM, m13 50 (by decide) (by decide)]
  · rw [u2 9 (by decide), c9, upd_at, ea]
  · rw [u2 10 (by decide), c10, upd_at, eb]
  · rw [u2 11 (by decide), c11, upd_at]
  · rw [u2 12 (by decide), c12, upd_at, e10]
  · rw [F37, upd_at, kP8, m13 37 (by decide) (by decide), ea]
  · rw [F38, upd_at, kP8, m13 38 (by decide) (by decide), eb]
  · rw [F39, upd_at, kP8, m13 39 (by decide) (by decide), t8, g88, nI_p1]
  · rw [F40, upd_at, kP8, m13 40 (by decide) (by decide), t8, g88, nI_1, nI_p1]
  · rw [F41, upd_at, kP8, m13 41 (by decide) (by decide)]
  · simp only [List.mem_cons, List.not_mem_nil, or_false] at hq
    rcases hq with rfl | rfl | rfl | rfl | rfl | rfl | rfl | rfl | rfl <;> exact (u2 _ (by decide)).trans (m13 _ (by decide) (by decide))
  · rw [u1, ho3.1]
    exact congrFun ho.1 17
  · rw [u2 1 (by decide), c1, if_neg (fun z => by subst z; revert hj; decide), if_neg (fun z => by subst z; revert hj; decide)]
  · rw [u2 1 (by decide), c1]
    rfl
  · rw [u2 1 (by decide), c1]
    rfl
  · rw [G8, t8, g88, nI_1]
  · rw [G2, t8, e82, nI_1]
  · rw [G j (by simp only [List.mem_cons, List.not_mem_nil, or_false] at hj ⊢; omega), t8]
  · rw [u2 3 (by decide), ho3.2 3 (by decide)]
    show w1.1 3 7 = 0
    rw [ho.2 3 (by decide)]
    rfl
  · exact G27
  · rw [u2 3 (by decide), ho3.2 3 (by decide)]
    show w1.1 3 5 = 0
    rw [ho.2 3 (by decide)]
    rfl
  · rw [u2 3 (by decide), ho3.2 3 (by decide)]
    show w1.1 3 6 = 0
    rw [ho.2 3 (by decide)]
    rfl
  · rw [u2 4 (by decide), ho3.2 4 (by decide)]
    show w1.1 4 6 = 0
    rw [ho.2 4 (by decide)]
    rfl
  · simp only [List.mem_cons, List.not_mem_nil, or_false] at hq
    rcases hq with rfl | rfl | rfl | rfl | rfl | rfl | rfl | rfl | rfl | rfl | rfl | rfl | rfl <;> exact (u2 _ (by decide)).trans (m13 _ (by decide) (by decide))
  · rw [G 0 (by decide), t8]
  · rw [G 44 (by decide), t8]
