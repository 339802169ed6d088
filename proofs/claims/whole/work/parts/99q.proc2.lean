set_option maxHeartbeats 32000000 in
set_option maxRecDepth 100000 in
theorem pr_ok {w : qq_w} {N Pn E x y : Nat} {a b : Int32} (h : Inv w) (H : iPrg w N Pn E) (hF : iFnd w) (hT : iTrk w) (hS : iSol w N Pn) (ea : a = nI x) (eb : b = nI y) (hx8 : x ≤ 8) (hy4 : y ≤ 4) (hyx : y ≤ x) (hN64 : N + 2 ≤ 64) (hP8 : Pn < 8) (a1 : ¬ a < 0) (a2 : ¬ 9 ≤ a) (a3 : 0 ≤ a ∧ a ≤ 8) (b1 : ¬ b < 0) (b2 : ¬ (if 4 < a then 4 else a) + 1 ≤ b) (b3 : 0 ≤ b ∧ b ≤ 4) (b4 : ¬ a < b) (b5 : b ≤ a) (n9 : ¬ 8 ≤ w.1 1 9) (n9' : w.1 1 9 < 8) (hr1 : ¬ 64 < w.1 1 10 + 2) (n82 : ¬ w.1 8 2 = 8) (hr2 : ¬ 64 < w.1 8 8 + 2) (hr3 : w.1 8 8 + 2 ≤ 64) : T_X7_procedure [.ref 0, .int a, .int b] w (fun v w1 => ∃ X : Int32, v = some (.int X) ∧ T_X8_procedure [.ref 8, .int a, .int b] w1 (fun v' w2 => v' = some (.int X) ∧ Inv w2)) := by
  obtain ⟨hN, hP, hE, e10, e88, e9, e82, -⟩ := H.1
  have q10 : qn (w.1 1 10) = N := (iP_P H).2.2.1
  have v9 : vp_in (w.1 1 9) 8 := i_in 8 e9 hP8 (by decide)
  have v82 : vp_in (w.1 8 2) 8 := i_in 8 e82 hP8 (by decide)
  have v10 : vp_in (w.1 1 10) 64 := i_in 64 e10 (by omega) (by decide)
  have g10 : w.1 1 10 + 1 = nI (N + 1) := by rw [e10, nI_1]
  have v10b : vp_in (w.1 1 10 + 1) 64 := i_in 64 g10 (by omega) (by decide)
  have v88 : vp_in (w.1 8 8) 64 := i_in 64 e88 (by omega) (by decide)
  have g88 : w.1 8 8 + 1 = nI (N + 1) := by rw [e88, nI_1]
  have v88b : vp_in (w.1 8 8 + 1) 64 := i_in 64 g88 (by omega) (by decide)
  conv => whnf
  (repeat ((first | refine br_t (by decide) ?_ | refine br_f (by decide) ?_ | refine br_nt (by decide) ?_ | refine br_nf (by decide) ?_ | refine br_t (by with_reducible assumption) ?_ | refine br_f (by with_reducible assumption) ?_ | refine br_nt (by with_reducible assumption) ?_ | refine br_nf (by with_reducible assumption) ?_ | refine And.intro (by with_reducible assumption) ?_); (conv => whnf)))
  (refine ⟨Or.inl rfl, ?_⟩; conv => whnf)
  (refine ⟨Or.inl rfl, ?_⟩; conv => whnf)
  iterate 3 (refine ⟨v9, ?_⟩; conv => whnf)
  refine ⟨v10, fun w1 hw1 => ?_⟩
  obtain ⟨ho, hn1, h13⟩ := hw1
  have v11 : vp_in (w1.1 1 10) 64 := by
    rw [hn1]
    exact v10b
  have e110 : w1.1 1 10 = nI (N + 1) := by
    rw [hn1]
    exact g10
  conv => whnf
  refine ⟨v9, ?_⟩
  conv => whnf
  refine ⟨v11, fun w3 hw3 => ?_⟩
  obtain ⟨ho3, hn3, h133⟩ := hw3
  conv => whnf
  refine ⟨_, rfl, gen_w (T := T_X8_procedure) (fun wT hwT => ?_)⟩
  have m13 : ∀ q, q ∉ [1, 13] → q ∉ [3, 4, 9, 10, 11, 12] → wT.1 q = w.1 q := fun q z1 z2 => by
    have z3 : q ≠ 3 := fun z => z2 (by simp [z])
    have z4 : q ≠ 4 := fun z => z2 (by simp [z])
    have z9 : q ≠ 9 := fun z => z2 (by simp [z])
    have z10 : q ≠ 10 := fun z => z2 (by simp [z])
    have z11 : q ≠ 11 := fun z => z2 (by simp [z])
    have z12 : q ≠ 12 := fun z => z2 (by simp [z])
    have y1 : q ≠ 1 := fun z => z1 (by simp [z])
    rw [hwT, ho3.2 q z1]
    simp only [qq_ui, va_up, z12, if_false]
    rw [ho.2 q z1]
    simp only [qq_ui, va_up, z3, z4, z9, z10, z11, y1, if_false]
  have t8 : wT.1 8 = w.1 8 := m13 8 (by decide) (by decide)
  have kP : (w.1 1 9).toNatClampNeg = Pn := i_c e9 (by omega)
  have c9 : wT.1 9 = upd (w.1 9) Pn a := by
    rw [hwT, ho3.2 9 (by decide)]
    show w1.1 9 = _
    rw [ho.2 9 (by decide), ← kP]
    rfl
  have c10 : wT.1 10 = upd (w.1 10) Pn b := by
    rw [hwT, ho3.2 10 (by decide)]
    show w1.1 10 = _
    rw [ho.2 10 (by decide), ← kP]
    rfl
  have c11 : wT.1 11 = upd (w.1 11) Pn (-5) := by
    rw [hwT, ho3.2 11 (by decide)]
    show w1.1 11 = _
    rw [ho.2 11 (by decide), ← kP]
    rfl
  have c12 : wT.1 12 = upd (w.1 12) Pn (w.1 1 10) := by
    rw [hwT, ho3.2 12 (by decide), ← kP]
    show upd (w1.1 12) _ _ = _
    rw [ho.2 12 (by decide)]
    rfl
  have c1 : ∀ j, wT.1 1 j = if j = 10 then nI (N + 2) else if j = 9 then nI (Pn + 1) else w.1 1 j := by
    intro j
    rw [hwT, hn3]
    show upd (w1.1 1) 10 (w1.1 1 10 + 1) j = _
    rw [upd_at, e110, nI_1, hn1]
    show (if j = 10 then nI (N + 2) else upd (upd (w.1 1) 9 (w.1 1 9 + 1)) 10 _ j) = _
    rw [upd_at, upd_at, e9, nI_1]
    split <;> rfl
  have q110 : qn (w1.1 1 10) = N + 1 := by rw [e110, qn_nI (by omega)]
  have c13 : ∀ i j, j < 10 → wT.1 13 (10 * i + j) = if i = N + 1 then rowE (w.1 1 9) 1 j else if i = N then rowE (w.1 1 9) 0 j else w.1 13 (10 * i + j) := by
    intro i j hj
    rw [hwT, h133 (10 * i + j)]
    show (if (10 * i + j) / 10 = qn (w1.1 1 10) then (if (10 * i + j) % 10 = 0 then w.1 1 9 else if (10 * i + j) % 10 = 1 then 1 else -5) else w1.1 13 (10 * i + j)) = _
    rw [q110, h13 (10 * i + j), show (10 * i + j) / 10 = i by omega, show (10 * i + j) % 10 = j by omega]
    show (if i = N + 1 then (if j = 0 then w.1 1 9 else if j = 1 then 1 else -5) else if i = qn (w.1 1 10) then (if j = 0 then w.1 1 9 else if j = 1 then 0 else -5) else w.1 13 (10 * i + j)) = _
    rw [q10]
    rfl
  rw [← t8] at n82 hr2 hr3 v82 v88 v88b
  conv => whnf
  (repeat ((first | refine br_t (by decide) ?_ | refine br_f (by decide) ?_ | refine br_nt (by decide) ?_ | refine br_nf (by decide) ?_ | refine br_t (by with_reducible assumption) ?_ | refine br_f (by with_reducible assumption) ?_ | refine br_nt (by with_reducible assumption) ?_ | refine br_nf (by with_reducible assumption) ?_ | refine And.intro (by with_reducible assumption) ?_); (conv => whnf)))
  iterate 2 (refine ⟨v82, ?_⟩; conv => whnf)
  iterate 9 (refine ⟨v88, ?_⟩; conv => whnf)
  (refine ⟨Or.inl rfl, ?_⟩; conv => whnf)
  refine ⟨v82, ?_⟩
  conv => whnf
  iterate 9 (refine ⟨v88b, ?_⟩; conv => whnf)
  (refine ⟨Or.inl rfl, ?_⟩; conv => whnf)
  refine ⟨v82, ?_⟩
  conv => whnf
  have kN : (wT.1 8 8).toNatClampNeg = N := by
    rw [t8]
    exact i_c e88 (by omega)
  have kM : (wT.1 8 8 + 1).toNatClampNeg = N + 1 := by
    rw [t8]
    exact i_c g88 (by omega)
  have kP8 : (wT.1 8 2).toNatClampNeg = Pn := by
    rw [t8]
    exact i_c e82 (by omega)
  refine ⟨?_, Inv_end2 (w := w) (N := N + 2) (Pn := Pn + 1) (E := E) hF hT hS.1 (prg_proc (a := x) (b := y) H hN64 hP8 hx8 hy4 hyx (fun i j hj => ?_) (fun i => ?_) (fun i => ?_) (fun i => ?_) (fun i => ?_) (fun i => ?_) (fun i => ?_) (fun i => ?_) (fun i => ?_) (fun i => ?_) (fun p => ?_) (fun p => ?_) (fun p => ?_) (fun p => ?_) (fun p => ?_) (fun p => ?_) (fun p => ?_) (fun p => ?_) (fun p => ?_) (fun q hq => ?_) ?_ (fun j hj => ?_) ?_ ?_ ?_ ?_ (fun j hj => ?_)) ?_ ?_ ?_ ?_ ?_ (fun q hq => ?_) ?_ ?_⟩
  · show some (Value.int (wT.1 8 2 + 1 - 1)) = some (Value.int (w.1 1 9))
    rw [t8, e82, e9, nI_1, nI_p1]
  · rw [← e9]
    exact c13 i j hj
  · show upd (upd (wT.1 42) (wT.1 8 8).toNatClampNeg (wT.1 8 2)) (wT.1 8 8 + 1).toNatClampNeg (wT.1 8 2) i = _
    rw [upd_at, upd_at, kN, kM, m13 42 (by decide) (by decide), t8, e82]
  · show upd (upd (wT.1 43) (wT.1 8 8).toNatClampNeg 0) (wT.1 8 8 + 1).toNatClampNeg 1 i = _
    rw [upd_at, upd_at, kN, kM, m13 43 (by decide) (by decide)]
  · show upd (upd (wT.1 44) (wT.1 8 8).toNatClampNeg (-5)) (wT.1 8 8 + 1).toNatClampNeg (-5) i = _
    rw [upd_at, upd_at, kN, kM, m13 44 (by decide) (by decide)]
  · show upd (upd (wT.1 45) (wT.1 8 8).toNatClampNeg (-5)) (wT.1 8 8 + 1).toNatClampNeg (-5) i = _
    rw [upd_at, upd_at, kN, kM, m13 45 (by decide) (by decide)]
  · show upd (upd (wT.1 46) (wT.1 8 8).toNatClampNeg (-5)) (wT.1 8 8 + 1).toNatClampNeg (-5) i = _
    rw [upd_at, upd_at, kN, kM, m13 46 (by decide) (by decide)]
  · show upd (upd (wT.1 47) (wT.1 8 8).toNatClampNeg (-5)) (wT.1 8 8 + 1).toNatClampNeg (-5) i = _
    rw [upd_at, upd_at, kN, kM, m13 47 (by decide) (by decide)]
  · show upd (upd (wT.1 48) (wT.1 8 8).toNatClampNeg (-5)) (wT.1 8 8 + 1).toNatClampNeg (-5) i = _
    rw [upd_at, upd_at, kN, kM, m13 48 (by decide) (by decide)]
  · show upd (upd (wT.1 49) (wT.1 8 8).toNatClampNeg (-5)) (wT.1 8 8 + 1).toNatClampNeg (-5) i = _
    rw [upd_at, upd_at, kN, kM, m13 49 (by decide) (by decide)]
  · show upd (upd (wT.1 50) (wT.1 8 8).toNatClampNeg (-5)) (wT.1 8 8 + 1).toNatClampNeg (-5) i = _
    rw [upd_at, upd_at, kN, kM, m13 50 (by decide) (by decide)]
  · show wT.1 9 p = _
    rw [c9, upd_at, ea]
  · show wT.1 10 p = _
    rw [c10, upd_at, eb]
  · show wT.1 11 p = _
    rw [c11, upd_at]
  · show wT.1 12 p = _
    rw [c12, upd_at, e10]
  · show upd (wT.1 37) (wT.1 8 2).toNatClampNeg a p = _
    rw [upd_at, kP8, m13 37 (by decide) (by decide), ea]
  · show upd (wT.1 38) (wT.1 8 2).toNatClampNeg b p = _
    rw [upd_at, kP8, m13 38 (by decide) (by decide), eb]
  · show upd (wT.1 39) (wT.1 8 2).toNatClampNeg (wT.1 8 8 + 1 - 1) p = _
    rw [upd_at, kP8, m13 39 (by decide) (by decide), t8, g88, nI_p1]
  · show upd (wT.1 40) (wT.1 8 2).toNatClampNeg (wT.1 8 8 + 1 + 1 - 1) p = _
    rw [upd_at, kP8, m13 40 (by decide) (by decide), t8, g88, nI_1, nI_p1]
  · show upd (wT.1 41) (wT.1 8 2).toNatClampNeg (-5) p = _
    rw [upd_at, kP8, m13 41 (by decide) (by decide)]
  · simp only [List.mem_cons, List.not_mem_nil, or_false] at hq
    rcases hq with rfl | rfl | rfl | rfl | rfl | rfl | rfl | rfl | rfl <;> exact m13 _ (by decide) (by decide)
  · show wT.2 17 = _
    rw [hwT, ho3.1]
    exact congrFun ho.1 17
  · show wT.1 1 j = _
    rw [c1, if_neg (fun z => by subst z; revert hj; decide), if_neg (fun z => by subst z; revert hj; decide)]
  · show wT.1 1 9 = _
    rw [c1]
    rfl
  · show wT.1 1 10 = _
    rw [c1]
    rfl
  · show wT.1 8 8 + 1 + 1 = _
    rw [t8, g88, nI_1]
  · show wT.1 8 2 + 1 = _
    rw [t8, e82, nI_1]
  · rw [← t8]
    simp only [List.mem_cons, List.not_mem_nil, or_false] at hj
    rcases hj with rfl | rfl | rfl | rfl <;> rfl
  · show wT.1 3 7 = 0
    rw [hwT, ho3.2 3 (by decide)]
    show w1.1 3 7 = 0
    rw [ho.2 3 (by decide)]
    rfl
  · rfl
  · show wT.1 3 5 = 0
    rw [hwT, ho3.2 3 (by decide)]
    show w1.1 3 5 = 0
    rw [ho.2 3 (by decide)]
    rfl
  · show wT.1 3 6 = 0
    rw [hwT, ho3.2 3 (by decide)]
    show w1.1 3 6 = 0
    rw [ho.2 3 (by decide)]
    rfl
  · show wT.1 4 6 = 0
    rw [hwT, ho3.2 4 (by decide)]
    show w1.1 4 6 = 0
    rw [ho.2 4 (by decide)]
    rfl
  · simp only [List.mem_cons, List.not_mem_nil, or_false] at hq
    rcases hq with rfl | rfl | rfl | rfl | rfl | rfl | rfl | rfl | rfl | rfl | rfl | rfl | rfl <;> exact m13 _ (by decide) (by decide)
  · show wT.1 8 0 = _
    rw [t8]
  · show wT.1 8 44 = _
    rw [t8]
