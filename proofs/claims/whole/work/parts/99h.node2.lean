set_option maxHeartbeats 16000000 in
theorem nd_3 {w : qq_w} {N Pn E n : Nat} {a x y z : Int32} (h : Inv w) (H : iPrg w N Pn E) (hF : iFnd w) (hT : iTrk w) (hS : iSol w N Pn) (hn : n < Pn) (ea : a = nI n) (k1 : ¬ a < 0) (k2 : ¬ w.1 1 9 ≤ a) (k3 : 0 ≤ a ∧ a ≤ w.1 8 2 - 1) (hv : vp_in a 8) (hr1 : ¬ 64 < w.1 1 10 + 1) (hN64 : N < 64) (xX0 : iVar w n x) (xX1 : ¬ x ≤ 0) (xX2 : ¬ 5 + w.1 9 a.toNatClampNeg ≤ x) (xX4 : 1 ≤ x ∧ x ≤ 4 + w.1 37 a.toNatClampNeg) : T_X7_node [.ref 0, .int a, .int (nI 3), .int x, .int y, .int z] w (fun v w1 => ∃ X : Int32, v = some (.int X) ∧ T_X8_node [.ref 8, .int a, .int (nI 3), .int x, .int y, .int z] w1 (fun v' w2 => v' = some (.int X) ∧ Inv w2)) := by
  obtain ⟨hN, hP, hE, e10, e88, -⟩ := H.1
  have q10 : qn (w.1 1 10) = N := (iP_P H).2.2.1
  have v10 : vp_in (w.1 1 10) 64 := i_in 64 e10 hN64 (by decide)
  have v88 : vp_in (w.1 8 8) 64 := i_in 64 e88 hN64 (by decide)
  have n88 : ¬ w.1 8 8 = 64 := fun z => by
    rw [e88] at z
    have := nI_inj (b := 64) (by omega) (by decide) z
    omega
  have f88 : w.1 8 8 + 1 - 1 = nI N := by rw [e88, nI_1, nI_p1]
  have w88 : vp_in (w.1 8 8 + 1 - 1) 64 := i_in 64 f88 hN64 (by decide)
  have c88 : (w.1 8 8).toNatClampNeg = N := i_c e88 (by omega)
  have d88 : (w.1 8 8 + 1 - 1).toNatClampNeg = N := i_c f88 (by omega)
  have j2 := nI_ml e10 (x := 2) (i := 2) rfl (nI_lit 10)
  have j3 := nI_ml e10 (x := 3) (i := 3) rfl (nI_lit 10)
  have j4 := nI_ml e10 (x := 4) (i := 4) rfl (nI_lit 10)
  have i2 : (w.1 1 10 * 10 + 2).toNatClampNeg = 10 * N + 2 := i_c j2 (by omega)
  have i3 : (w.1 1 10 * 10 + 3).toNatClampNeg = 10 * N + 3 := i_c j3 (by omega)
  have i4 : (w.1 1 10 * 10 + 4).toNatClampNeg = 10 * N + 4 := i_c j4 (by omega)
  have vi2 : vp_in (w.1 1 10 * 10 + 2) 640 := i_in 640 j2 (by omega) (by decide)
  have vi3 : vp_in (w.1 1 10 * 10 + 3) 640 := i_in 640 j3 (by omega) (by decide)
  have vi4 : vp_in (w.1 1 10 * 10 + 4) 640 := i_in 640 j4 (by omega) (by decide)
  have hvk : vp_in (nI 3) 11 := i_in 11 rfl (by decide) (by decide)
  have hu : ¬ qq_under (qn (nI 3)) 4 := by
    unfold qq_under
    decide
  clear j2 j3 j4
  conv => whnf
  (repeat ((first | refine br_t (by decide) ?_ | refine br_f (by decide) ?_ | refine br_nt (by decide) ?_ | refine br_nf (by decide) ?_ | refine br_t (by with_reducible assumption) ?_ | refine br_f (by with_reducible assumption) ?_ | refine br_nt (by with_reducible assumption) ?_ | refine br_nf (by with_reducible assumption) ?_ | refine And.intro (by with_reducible assumption) ?_ | refine ⟨Or.inl rfl, ?_⟩ | refine br_t (by assumption) ?_ | refine br_f (by assumption) ?_ | refine br_nt (by assumption) ?_ | refine br_nf (by assumption) ?_ | refine And.intro (by assumption) ?_); (conv => whnf)))
  intro w1 hw1
  obtain ⟨ho, hn1, h13⟩ := hw1
  conv => whnf
  (repeat ((first | refine br_t (by decide) ?_ | refine br_f (by decide) ?_ | refine br_nt (by decide) ?_ | refine br_nf (by decide) ?_ | refine br_t (by with_reducible assumption) ?_ | refine br_f (by with_reducible assumption) ?_ | refine br_nt (by with_reducible assumption) ?_ | refine br_nf (by with_reducible assumption) ?_ | refine And.intro (by with_reducible assumption) ?_ | refine ⟨Or.inl rfl, ?_⟩ | refine br_t (by assumption) ?_ | refine br_f (by assumption) ?_ | refine br_nt (by assumption) ?_ | refine br_nf (by assumption) ?_ | refine And.intro (by assumption) ?_); (conv => whnf)))
  refine ⟨_, rfl, gen_w (T := T_X8_node) (fun wT hwT => ?_)⟩
  have t8 : wT.1 8 = w.1 8 := by
    rw [hwT]
    exact ho.2 8 (by decide)
  have t37 : wT.1 37 = w.1 37 := by
    rw [hwT]
    exact ho.2 37 (by decide)
  have k3' : 0 ≤ a ∧ a ≤ wT.1 8 2 - 1 := by
    rw [t8]
    exact k3
  have xX' : 1 ≤ x ∧ x ≤ 4 + wT.1 37 a.toNatClampNeg := by
    rw [t37]
    exact xX4
  have u88 : ¬ wT.1 8 8 = 64 := by
    rw [t8]
    exact n88
  have v88' : vp_in (wT.1 8 8) 64 := by
    rw [t8]
    exact v88
  have w88' : vp_in (wT.1 8 8 + 1 - 1) 64 := by
    rw [t8]
    exact w88
  conv => whnf
  (repeat ((first | refine br_t (by decide) ?_ | refine br_f (by decide) ?_ | refine br_nt (by decide) ?_ | refine br_nf (by decide) ?_ | refine ⟨_, rfl, ?_⟩ | refine br_t (by with_reducible assumption) ?_ | refine br_f (by with_reducible assumption) ?_ | refine br_nt (by with_reducible assumption) ?_ | refine br_nf (by with_reducible assumption) ?_ | refine ⟨by with_reducible assumption, ?_⟩ | refine ⟨Or.inl rfl, ?_⟩ | refine br_t (by assumption) ?_ | refine br_f (by assumption) ?_ | refine br_nt (by assumption) ?_ | refine br_nf (by assumption) ?_ | refine ⟨by assumption, ?_⟩); (conv => whnf)))
  have kN : (wT.1 8 8).toNatClampNeg = N := by
    rw [t8]
    exact c88
  have kN' : (wT.1 8 8 + 1 - 1).toNatClampNeg = N := by
    rw [t8]
    exact d88
  have m13 : ∀ q, q ∉ [1, 13] → q ∉ [3, 4] → wT.1 q = w.1 q := fun q z1 z2 => by
    have z13 : q ≠ 13 := fun z => z1 (by simp [z])
    have z3 : q ≠ 3 := fun z => z2 (by simp [z])
    have z4 : q ≠ 4 := fun z => z2 (by simp [z])
    rw [hwT]
    simp only [qq_ui, va_up, z13, if_false]
    rw [ho.2 q z1]
    simp only [qq_ui, va_up, z3, z4, if_false]
  have hr13 : ∀ i j, j < 10 → wT.1 13 (10 * i + j) = if i = N then rowN a (nI 3) x (-5) (-5) j else w.1 13 (10 * i + j) := by
    intro i j hj
    rw [hwT]
    show upd (upd (upd (w1.1 13) (w.1 1 10 * 10 + 2).toNatClampNeg x) (w.1 1 10 * 10 + 3).toNatClampNeg (-5)) (w.1 1 10 * 10 + 4).toNatClampNeg (-5) (10 * i + j) = _
    rw [i2, i3, i4, upd_at, upd_at, upd_at, h13 (10 * i + j)]
    exact row_at q10 hj
  refine ⟨?_, Inv_end2 (w := w) (N := N + 1) (Pn := Pn) (E := E) hF hT hS.1 (prg_node (p := n) (k := 3) (X := x) (Y := (-5)) (Z := (-5)) H (by omega) hn (by omega) (by omega) ⟨fun _ => xX0, fun z => by omega⟩ ⟨fun z => by omega, fun _ => rfl⟩ ⟨fun z => by omega, fun _ => rfl⟩ (by rw [← ea]; exact hr13) (fun i => ?_) (fun i => ?_) (fun i => ?_) (fun i => ?_) (fun i => ?_) (fun i => ?_) (fun i => ?_) (fun i => ?_) (fun i => ?_) (fun q hq z => ?_) ?_ (fun j hj => ?_) ?_ ?_ (fun j hj z => ?_)) ?_ ?_ ?_ ?_ ?_ (fun q hq => ?_) ?_ ?_⟩
  · show some (Value.int (wT.1 8 8 + 1 - 1)) = some (Value.int (w.1 1 10))
    rw [t8, e88, e10, nI_1, nI_p1]
  · show upd (wT.1 42) (wT.1 8 8).toNatClampNeg a i = _
    rw [upd_at, kN, m13 42 (by decide) (by decide), ← ea]
  · show upd (wT.1 43) (wT.1 8 8).toNatClampNeg (nI 3) i = _
    rw [upd_at, kN, m13 43 (by decide) (by decide)]
  · show upd (upd (wT.1 44) (wT.1 8 8).toNatClampNeg (-5)) (wT.1 8 8 + 1 - 1).toNatClampNeg x i = _
    rw [upd_at, upd_at, kN, kN', m13 44 (by decide) (by decide)]
    split <;> rfl
  · show upd (upd (wT.1 45) (wT.1 8 8).toNatClampNeg (-5)) (wT.1 8 8 + 1 - 1).toNatClampNeg (-5) i = _
    rw [upd_at, upd_at, kN, kN', m13 45 (by decide) (by decide)]
    split <;> rfl
  · show upd (upd (wT.1 46) (wT.1 8 8).toNatClampNeg (-5)) (wT.1 8 8 + 1 - 1).toNatClampNeg (-5) i = _
    rw [upd_at, upd_at, kN, kN', m13 46 (by decide) (by decide)]
    split <;> rfl
  · show upd (wT.1 47) (wT.1 8 8).toNatClampNeg (-5) i = _
    rw [upd_at, kN, m13 47 (by decide) (by decide)]
  · show upd (wT.1 48) (wT.1 8 8).toNatClampNeg (-5) i = _
    rw [upd_at, kN, m13 48 (by decide) (by decide)]
  · show upd (wT.1 49) (wT.1 8 8).toNatClampNeg (-5) i = _
    rw [upd_at, kN, m13 49 (by decide) (by decide)]
  · show upd (wT.1 50) (wT.1 8 8).toNatClampNeg (-5) i = _
    rw [upd_at, kN, m13 50 (by decide) (by decide)]
  · simp only [pgI, List.mem_cons, List.not_mem_nil, or_false] at hq
    rcases hq with rfl | rfl | rfl | rfl | rfl | rfl | rfl | rfl | rfl | rfl | rfl | rfl | rfl | rfl | rfl | rfl | rfl | rfl | rfl | rfl | rfl | rfl | rfl | rfl | rfl | rfl | rfl | rfl | rfl <;> first | exact absurd (by decide) z | exact m13 _ (by decide) (by decide)
  · show wT.2 17 = _
    rw [hwT]
    exact congrFun ho.1 17
  · show wT.1 1 j = _
    rw [hwT]
    show w1.1 1 j = _
    rw [hn1]
    show upd (w.1 1) 10 _ j = _
    rw [upd_at, if_neg (fun z => by subst z; revert hj; decide)]
  · show wT.1 1 10 = _
    rw [hwT]
    show w1.1 1 10 = _
    rw [hn1]
    show w.1 1 10 + 1 = _
    rw [e10, nI_1]
  · show wT.1 8 8 + 1 = _
    rw [t8, e88, nI_1]
  · rw [← t8]
    simp only [pg8, List.mem_cons, List.not_mem_nil, or_false] at hj
    rcases hj with rfl | rfl | rfl | rfl | rfl | rfl <;> first | rfl | exact absurd rfl z
  · show wT.1 3 7 = 0
    rw [hwT]
    show w1.1 3 7 = 0
    rw [ho.2 3 (by decide)]
    rfl
  · rfl
  · show wT.1 3 5 = 0
    rw [hwT]
    show w1.1 3 5 = 0
    rw [ho.2 3 (by decide)]
    rfl
  · show wT.1 3 6 = 0
    rw [hwT]
    show w1.1 3 6 = 0
    rw [ho.2 3 (by decide)]
    rfl
  · show wT.1 4 6 = 0
    rw [hwT]
    show w1.1 4 6 = 0
    rw [ho.2 4 (by decide)]
    rfl
  · simp only [List.mem_cons, List.not_mem_nil, or_false] at hq
    rcases hq with rfl | rfl | rfl | rfl | rfl | rfl | rfl | rfl | rfl | rfl | rfl | rfl | rfl <;> exact m13 _ (by decide) (by decide)
  · show wT.1 8 0 = _
    rw [t8]
  · show wT.1 8 44 = _
    rw [t8]
set_option maxHeartbeats 16000000 in
theorem nd_4 {w : qq_w} {N Pn E n : Nat} {a x y z : Int32} (h : Inv w) (H : iPrg w N Pn E) (hF : iFnd w) (hT : iTrk w) (hS : iSol w N Pn) (hn : n < Pn) (ea : a = nI n) (k1 : ¬ a < 0) (k2 : ¬ w.1 1 9 ≤ a) (k3 : 0 ≤ a ∧ a ≤ w.1 8 2 - 1) (hv : vp_in a 8) (hr1 : ¬ 64 < w.1 1 10 + 1) (hN64 : N < 64) (xX0 : iVar w n x) (xX1 : ¬ x ≤ 0) (xX2 : ¬ 5 + w.1 9 a.toNatClampNeg ≤ x) (xX4 : 1 ≤ x ∧ x ≤ 4 + w.1 37 a.toNatClampNeg) (xY0 : iVar w n y) (xY1 : ¬ y ≤ 0) (xY2 : ¬ 5 + w.1 9 a.toNatClampNeg ≤ y) (xY4 : 1 ≤ y ∧ y ≤ 4 + w.1 37 a.toNatClampNeg) : T_X7_node [.ref 0, .int a, .int (nI 4), .int x, .int y, .int z] w (fun v w1 => ∃ X : Int32, v = some (.int X) ∧ T_X8_node [.ref 8, .int a, .int (nI 4), .int x, .int y, .int z] w1 (fun v' w2 => v' = some (.int X) ∧ Inv w2)) := by
  obtain ⟨hN, hP, hE, e10, e88, -⟩ := H.1
  have q10 : qn (w.1 1 10) = N := (iP_P H).2.2.1
  have v10 : vp_in (w.1 1 10) 64 := i_in 64 e10 hN64 (by decide)
  have v88 : vp_in (w.1 8 8) 64 := i_in 64 e88 hN64 (by decide)
  have n88 : ¬ w.1 8 8 = 64 := fun z => by
    rw [e88] at z
    have := nI_inj (b := 64) (by omega) (by decide) z
    omega
  have f88 : w.1 8 8 + 1 - 1 = nI N := by rw [e88, nI_1, nI_p1]
  have w88 : vp_in (w.1 8 8 + 1 - 1) 64 := i_in 64 f88 hN64 (by decide)
  have c88 : (w.1 8 8).toNatClampNeg = N := i_c e88 (by omega)
  have d88 : (w.1 8 8 + 1 - 1).toNatClampNeg = N := i_c f88 (by omega)
  have j2 := nI_ml e10 (x := 2) (i := 2) rfl (nI_lit 10)
  have j3 := nI_ml e10 (x := 3) (i := 3) rfl (nI_lit 10)
  have j4 := nI_ml e10 (x := 4) (i := 4) rfl (nI_lit 10)
  have i2 : (w.1 1 10 * 10 + 2).toNatClampNeg = 10 * N + 2 := i_c j2 (by omega)
  have i3 : (w.1 1 10 * 10 + 3).toNatClampNeg = 10 * N + 3 := i_c j3 (by omega)
  have i4 : (w.1 1 10 * 10 + 4).toNatClampNeg = 10 * N + 4 := i_c j4 (by omega)
  have vi2 : vp_in (w.1 1 10 * 10 + 2) 640 := i_in 640 j2 (by omega) (by decide)
  have vi3 : vp_in (w.1 1 10 * 10 + 3) 640 := i_in 640 j3 (by omega) (by decide)
  have vi4 : vp_in (w.1 1 10 * 10 + 4) 640 := i_in 640 j4 (by omega) (by decide)
  have hvk : vp_in (nI 4) 11 := i_in 11 rfl (by decide) (by decide)
  have hu : qq_under (qn (nI 4)) 4 := by
    unfold qq_under
    decide
  clear j2 j3 j4
  conv => whnf
  (repeat ((first | refine br_t (by decide) ?_ | refine br_f (by decide) ?_ | refine br_nt (by decide) ?_ | refine br_nf (by decide) ?_ | refine br_t (by with_reducible assumption) ?_ | refine br_f (by with_reducible assumption) ?_ | refine br_nt (by with_reducible assumption) ?_ | refine br_nf (by with_reducible assumption) ?_ | refine And.intro (by with_reducible assumption) ?_ | refine ⟨Or.inl rfl, ?_⟩ | refine br_t (by assumption) ?_ | refine br_f (by assumption) ?_ | refine br_nt (by assumption) ?_ | refine br_nf (by assumption) ?_ | refine And.intro (by assumption) ?_); (conv => whnf)))
  intro w1 hw1
  obtain ⟨ho, hn1, h13⟩ := hw1
  conv => whnf
  (repeat ((first | refine br_t (by decide) ?_ | refine br_f (by decide) ?_ | refine br_nt (by decide) ?_ | refine br_nf (by decide) ?_ | refine br_t (by with_reducible assumption) ?_ | refine br_f (by with_reducible assumption) ?_ | refine br_nt (by with_reducible assumption) ?_ | refine br_nf (by with_reducible assumption) ?_ | refine And.intro (by with_reducible assumption) ?_ | refine ⟨Or.inl rfl, ?_⟩ | refine br_t (by assumption) ?_ | refine br_f (by assumption) ?_ | refine br_nt (by assumption) ?_ | refine br_nf (by assumption) ?_ | refine And.intro (by assumption) ?_); (conv => whnf)))
  refine ⟨_, rfl, gen_w (T := T_X8_node) (fun wT hwT => ?_)⟩
  have t8 : wT.1 8 = w.1 8 := by
    rw [hwT]
    exact ho.2 8 (by decide)
  have t37 : wT.1 37 = w.1 37 := by
    rw [hwT]
    exact ho.2 37 (by decide)
  have k3' : 0 ≤ a ∧ a ≤ wT.1 8 2 - 1 := by
    rw [t8]
    exact k3
  have xX' : 1 ≤ x ∧ x ≤ 4 + wT.1 37 a.toNatClampNeg := by
    rw [t37]
    exact xX4
  have xY' : 1 ≤ y ∧ y ≤ 4 + wT.1 37 a.toNatClampNeg := by
    rw [t37]
    exact xY4
  have u88 : ¬ wT.1 8 8 = 64 := by
    rw [t8]
    exact n88
  have v88' : vp_in (wT.1 8 8) 64 := by
    rw [t8]
    exact v88
  have w88' : vp_in (wT.1 8 8 + 1 - 1) 64 := by
    rw [t8]
    exact w88
  conv => whnf
  (repeat ((first | refine br_t (by decide) ?_ | refine br_f (by decide) ?_ | refine br_nt (by decide) ?_ | refine br_nf (by decide) ?_ | refine ⟨_, rfl, ?_⟩ | refine br_t (by with_reducible assumption) ?_ | refine br_f (by with_reducible assumption) ?_ | refine br_nt (by with_reducible assumption) ?_ | refine br_nf (by with_reducible assumption) ?_ | refine ⟨by with_reducible assumption, ?_⟩ | refine ⟨Or.inl rfl, ?_⟩ | refine br_t (by assumption) ?_ | refine br_f (by assumption) ?_ | refine br_nt (by assumption) ?_ | refine br_nf (by assumption) ?_ | refine ⟨by assumption, ?_⟩); (conv => whnf)))
  have kN : (wT.1 8 8).toNatClampNeg = N := by
    rw [t8]
    exact c88
  have kN' : (wT.1 8 8 + 1 - 1).toNatClampNeg = N := by
    rw [t8]
    exact d88
  have m13 : ∀ q, q ∉ [1, 13] → q ∉ [3, 4] → wT.1 q = w.1 q := fun q z1 z2 => by
    have z13 : q ≠ 13 := fun z => z1 (by simp [z])
    have z3 : q ≠ 3 := fun z => z2 (by simp [z])
    have z4 : q ≠ 4 := fun z => z2 (by simp [z])
    rw [hwT]
    simp only [qq_ui, va_up, z13, if_false]
    rw [ho.2 q z1]
    simp only [qq_ui, va_up, z3, z4, if_false]
  have hr13 : ∀ i j, j < 10 → wT.1 13 (10 * i + j) = if i = N then rowN a (nI 4) x y (-5) j else w.1 13 (10 * i + j) := by
    intro i j hj
    rw [hwT]
    show upd (upd (upd (w1.1 13) (w.1 1 10 * 10 + 2).toNatClampNeg x) (w.1 1 10 * 10 + 3).toNatClampNeg y) (w.1 1 10 * 10 + 4).toNatClampNeg (-5) (10 * i + j) = _
    rw [i2, i3, i4, upd_at, upd_at, upd_at, h13 (10 * i + j)]
    exact row_at q10 hj
  refine ⟨?_, Inv_end2 (w := w) (N := N + 1) (Pn := Pn) (E := E) hF hT hS.1 (prg_node (p := n) (k := 4) (X := x) (Y := y) (Z := (-5)) H (by omega) hn (by omega) (by omega) ⟨fun _ => xX0, fun z => by omega⟩ ⟨fun _ => xY0, fun z => absurd (by omega) z⟩ ⟨fun z => by omega, fun _ => rfl⟩ (by rw [← ea]; exact hr13) (fun i => ?_) (fun i => ?_) (fun i => ?_) (fun i => ?_) (fun i => ?_) (fun i => ?_) (fun i => ?_) (fun i => ?_) (fun i => ?_) (fun q hq z => ?_) ?_ (fun j hj => ?_) ?_ ?_ (fun j hj z => ?_)) ?_ ?_ ?_ ?_ ?_ (fun q hq => ?_) ?_ ?_⟩
  · show some (Value.int (wT.1 8 8 + 1 - 1)) = some (Value.int (w.1 1 10))
    rw [t8, e88, e10, nI_1, nI_p1]
  · show upd (wT.1 42) (wT.1 8 8).toNatClampNeg a i = _
    rw [upd_at, kN, m13 42 (by decide) (by decide), ← ea]
  · show upd (wT.1 43) (wT.1 8 8).toNatClampNeg (nI 4) i = _
    rw [upd_at, kN, m13 43 (by decide) (by decide)]
  · show upd (upd (wT.1 44) (wT.1 8 8).toNatClampNeg (-5)) (wT.1 8 8 + 1 - 1).toNatClampNeg x i = _
    rw [upd_at, upd_at, kN, kN', m13 44 (by decide) (by decide)]
    split <;> rfl
  · show upd (upd (wT.1 45) (wT.1 8 8).toNatClampNeg (-5)) (wT.1 8 8 + 1 - 1).toNatClampNeg y i = _
    rw [upd_at, upd_at, kN, kN', m13 45 (by decide) (by decide)]
    split <;> rfl
  · show upd (upd (wT.1 46) (wT.1 8 8).toNatClampNeg (-5)) (wT.1 8 8 + 1 - 1).toNatClampNeg (-5) i = _
    rw [upd_at, upd_at, kN, kN', m13 46 (by decide) (by decide)]
    split <;> rfl
  · show upd (wT.1 47) (wT.1 8 8).toNatClampNeg (-5) i = _
    rw [upd_at, kN, m13 47 (by decide) (by decide)]
  · show upd (wT.1 48) (wT.1 8 8).toNatClampNeg (-5) i = _
    rw [upd_at, kN, m13 48 (by decide) (by decide)]
  · show upd (wT.1 49) (wT.1 8 8).toNatClampNeg (-5) i = _
    rw [upd_at, kN, m13 49 (by decide) (by decide)]
  · show upd (wT.1 50) (wT.1 8 8).toNatClampNeg (-5) i = _
    rw [upd_at, kN, m13 50 (by decide) (by decide)]
  · simp only [pgI, List.mem_cons, List.not_mem_nil, or_false] at hq
    rcases hq with rfl | rfl | rfl | rfl | rfl | rfl | rfl | rfl | rfl | rfl | rfl | rfl | rfl | rfl | rfl | rfl | rfl | rfl | rfl | rfl | rfl | rfl | rfl | rfl | rfl | rfl | rfl | rfl | rfl <;> first | exact absurd (by decide) z | exact m13 _ (by decide) (by decide)
  · show wT.2 17 = _
    rw [hwT]
    exact congrFun ho.1 17
  · show wT.1 1 j = _
    rw [hwT]
    show w1.1 1 j = _
    rw [hn1]
    show upd (w.1 1) 10 _ j = _
    rw [upd_at, if_neg (fun z => by subst z; revert hj; decide)]
  · show wT.1 1 10 = _
    rw [hwT]
    show w1.1 1 10 = _
    rw [hn1]
    show w.1 1 10 + 1 = _
    rw [e10, nI_1]
  · show wT.1 8 8 + 1 = _
    rw [t8, e88, nI_1]
  · rw [← t8]
    simp only [pg8, List.mem_cons, List.not_mem_nil, or_false] at hj
    rcases hj with rfl | rfl | rfl | rfl | rfl | rfl <;> first | rfl | exact absurd rfl z
  · show wT.1 3 7 = 0
    rw [hwT]
    show w1.1 3 7 = 0
    rw [ho.2 3 (by decide)]
    rfl
  · rfl
  · show wT.1 3 5 = 0
    rw [hwT]
    show w1.1 3 5 = 0
    rw [ho.2 3 (by decide)]
    rfl
  · show wT.1 3 6 = 0
    rw [hwT]
    show w1.1 3 6 = 0
    rw [ho.2 3 (by decide)]
    rfl
  · show wT.1 4 6 = 0
    rw [hwT]
    show w1.1 4 6 = 0
    rw [ho.2 4 (by decide)]
    rfl
  · simp only [List.mem_cons, List.not_mem_nil, or_false] at hq
    rcases hq with rfl | rfl | rfl | rfl | rfl | rfl | rfl | rfl | rfl | rfl | rfl | rfl | rfl <;> exact m13 _ (by decide) (by decide)
  · show wT.1 8 0 = _
    rw [t8]
  · show wT.1 8 44 = _
    rw [t8]
set_option maxHeartbeats 16000000 in
theorem nd_5 {w : qq_w} {N Pn E n : Nat} {a x y z : Int32} (h : Inv w) (H : iPrg w N Pn E) (hF : iFnd w) (hT : iTrk w) (hS : iSol w N Pn) (hn : n < Pn) (ea : a = nI n) (k1 : ¬ a < 0) (k2 : ¬ w.1 1 9 ≤ a) (k3 : 0 ≤ a ∧ a ≤ w.1 8 2 - 1) (hv : vp_in a 8) (hr1 : ¬ 64 < w.1 1 10 + 1) (hN64 : N < 64) (xX0 : iVar w n x) (xX1 : ¬ x ≤ 0) (xX2 : ¬ 5 + w.1 9 a.toNatClampNeg ≤ x) (xX4 : 1 ≤ x ∧ x ≤ 4 + w.1 37 a.toNatClampNeg) (xY0 : iVar w n y) (xY1 : ¬ y ≤ 0) (xY2 : ¬ 5 + w.1 9 a.toNatClampNeg ≤ y) (xY4 : 1 ≤ y ∧ y ≤ 4 + w.1 37 a.toNatClampNeg) (xZ0 : iVar w n z) (xZ1 : ¬ z ≤ 0) (xZ2 : ¬ 5 + w.1 9 a.toNatClampNeg ≤ z) (xZ4 : 1 ≤ z ∧ z ≤ 4 + w.1 37 a.toNatClampNeg) : T_X7_node [.ref 0, .int a, .int (nI 5), .int x, .int y, .int z] w (fun v w1 => ∃ X : Int32, v = some (.int X) ∧ T_X8_node [.ref 8, .int a, .int (nI 5), .int x, .int y, .int z] w1 (fun v' w2 => v' = some (.int X) ∧ Inv w2)) := by
  obtain ⟨hN, hP, hE, e10, e88, -⟩ := H.1
  have q10 : qn (w.1 1 10) = N := (iP_P H).2.2.1
  have v10 : vp_in (w.1 1 10) 64 := i_in 64 e10 hN64 (by decide)
  have v88 : vp_in (w.1 8 8) 64 := i_in 64 e88 hN64 (by decide)
  have n88 : ¬ w.1 8 8 = 64 := fun z => by
    rw [e88] at z
    have := nI_inj (b := 64) (by omega) (by decide) z
    omega
  have f88 : w.1 8 8 + 1 - 1 = nI N := by rw [e88, nI_1, nI_p1]
  have w88 : vp_in (w.1 8 8 + 1 - 1) 64 := i_in 64 f88 hN64 (by decide)
  have c88 : (w.1 8 8).toNatClampNeg = N := i_c e88 (by omega)
  have d88 : (w.1 8 8 + 1 - 1).toNatClampNeg = N := i_c f88 (by omega)
  have j2 := nI_ml e10 (x := 2) (i := 2) rfl (nI_lit 10)
  have j3 := nI_ml e10 (x := 3) (i := 3) rfl (nI_lit 10)
  have j4 := nI_ml e10 (x := 4) (i := 4) rfl (nI_lit 10)
  have i2 : (w.1 1 10 * 10 + 2).toNatClampNeg = 10 * N + 2 := i_c j2 (by omega)
  have i3 : (w.1 1 10 * 10 + 3).toNatClampNeg = 10 * N + 3 := i_c j3 (by omega)
  have i4 : (w.1 1 10 * 10 + 4).toNatClampNeg = 10 * N + 4 := i_c j4 (by omega)
  have vi2 : vp_in (w.1 1 10 * 10 + 2) 640 := i_in 640 j2 (by omega) (by decide)
  have vi3 : vp_in (w.1 1 10 * 10 + 3) 640 := i_in 640 j3 (by omega) (by decide)
  have vi4 : vp_in (w.1 1 10 * 10 + 4) 640 := i_in 640 j4 (by omega) (by decide)
  have hvk : vp_in (nI 5) 11 := i_in 11 rfl (by decide) (by decide)
  have hu : qq_under (qn (nI 5)) 4 := by
    unfold qq_under
    decide
  clear j2 j3 j4
  conv => whnf
  (repeat ((first | refine br_t (by decide) ?_ | refine br_f (by decide) ?_ | refine br_nt (by decide) ?_ | refine br_nf (by decide) ?_ | refine br_t (by with_reducible assumption) ?_ | refine br_f (by with_reducible assumption) ?_ | refine br_nt (by with_reducible assumption) ?_ | refine br_nf (by with_reducible assumption) ?_ | refine And.intro (by with_reducible assumption) ?_ | refine ⟨Or.inl rfl, ?_⟩ | refine br_t (by assumption) ?_ | refine br_f (by assumption) ?_ | refine br_nt (by assumption) ?_ | refine br_nf (by assumption) ?_ | refine And.intro (by assumption) ?_); (conv => whnf)))
  intro w1 hw1
  obtain ⟨ho, hn1, h13⟩ := hw1
  conv => whnf
  (repeat ((first | refine br_t (by decide) ?_ | refine br_f (by decide) ?_ | refine br_nt (by decide) ?_ | refine br_nf (by decide) ?_ | refine br_t (by with_reducible assumption) ?_ | refine br_f (by with_reducible assumption) ?_ | refine br_nt (by with_reducible assumption) ?_ | refine br_nf (by with_reducible assumption) ?_ | refine And.intro (by with_reducible assumption) ?_ | refine ⟨Or.inl rfl, ?_⟩ | refine br_t (by assumption) ?_ | refine br_f (by assumption) ?_ | refine br_nt (by assumption) ?_ | refine br_nf (by assumption) ?_ | refine And.intro (by assumption) ?_); (conv => whnf)))
  refine ⟨_, rfl, gen_w (T := T_X8_node) (fun wT hwT => ?_)⟩
  have t8 : wT.1 8 = w.1 8 := by
    rw [hwT]
    exact ho.2 8 (by decide)
  have t37 : wT.1 37 = w.1 37 := by
    rw [hwT]
    exact ho.2 37 (by decide)
  have k3' : 0 ≤ a ∧ a ≤ wT.1 8 2 - 1 := by
    rw [t8]
    exact k3
  have xX' : 1 ≤ x ∧ x ≤ 4 + wT.1 37 a.toNatClampNeg := by
    rw [t37]
    exact xX4
  have xY' : 1 ≤ y ∧ y ≤ 4 + wT.1 37 a.toNatClampNeg := by
    rw [t37]
    exact xY4
  have xZ' : 1 ≤ z ∧ z ≤ 4 + wT.1 37 a.toNatClampNeg := by
    rw [t37]
    exact xZ4
  have u88 : ¬ wT.1 8 8 = 64 := by
    rw [t8]
    exact n88
  have v88' : vp_in (wT.1 8 8) 64 := by
    rw [t8]
    exact v88
  have w88' : vp_in (wT.1 8 8 + 1 - 1) 64 := by
    rw [t8]
    exact w88
  conv => whnf
  (repeat ((first | refine br_t (by decide) ?_ | refine br_f (by decide) ?_ | refine br_nt (by decide) ?_ | refine br_nf (by decide) ?_ | refine ⟨_, rfl, ?_⟩ | refine br_t (by with_reducible assumption) ?_ | refine br_f (by with_reducible assumption) ?_ | refine br_nt (by with_reducible assumption) ?_ | refine br_nf (by with_reducible assumption) ?_ | refine ⟨by with_reducible assumption, ?_⟩ | refine ⟨Or.inl rfl, ?_⟩ | refine br_t (by assumption) ?_ | refine br_f (by assumption) ?_ | refine br_nt (by assumption) ?_ | refine br_nf (by assumption) ?_ | refine ⟨by assumption, ?_⟩); (conv => whnf)))
  have kN : (wT.1 8 8).toNatClampNeg = N := by
    rw [t8]
    exact c88
  have kN' : (wT.1 8 8 + 1 - 1).toNatClampNeg = N := by
    rw [t8]
    exact d88
  have m13 : ∀ q, q ∉ [1, 13] → q ∉ [3, 4] → wT.1 q = w.1 q := fun q z1 z2 => by
    have z13 : q ≠ 13 := fun z => z1 (by simp [z])
    have z3 : q ≠ 3 := fun z => z2 (by simp [z])
    have z4 : q ≠ 4 := fun z => z2 (by simp [z])
    rw [hwT]
    simp only [qq_ui, va_up, z13, if_false]
    rw [ho.2 q z1]
    simp only [qq_ui, va_up, z3, z4, if_false]
  have hr13 : ∀ i j, j < 10 → wT.1 13 (10 * i + j) = if i = N then rowN a (nI 5) x y z j else w.1 13 (10 * i + j) := by
    intro i j hj
    rw [hwT]
    show upd (upd (upd (w1.1 13) (w.1 1 10 * 10 + 2).toNatClampNeg x) (w.1 1 10 * 10 + 3).toNatClampNeg y) (w.1 1 10 * 10 + 4).toNatClampNeg z (10 * i + j) = _
    rw [i2, i3, i4, upd_at, upd_at, upd_at, h13 (10 * i + j)]
    exact row_at q10 hj
  refine ⟨?_, Inv_end2 (w := w) (N := N + 1) (Pn := Pn) (E := E) hF hT hS.1 (prg_node (p := n) (k := 5) (X := x) (Y := y) (Z := z) H (by omega) hn (by omega) (by omega) ⟨fun _ => xX0, fun z => by omega⟩ ⟨fun _ => xY0, fun z => absurd (by omega) z⟩ ⟨fun _ => xZ0, fun z => absurd rfl z⟩ (by rw [← ea]; exact hr13) (fun i => ?_) (fun i => ?_) (fun i => ?_) (fun i => ?_) (fun i => ?_) (fun i => ?_) (fun i => ?_) (fun i => ?_) (fun i => ?_) (fun q hq z => ?_) ?_ (fun j hj => ?_) ?_ ?_ (fun j hj z => ?_)) ?_ ?_ ?_ ?_ ?_ (fun q hq => ?_) ?_ ?_⟩
  · show some (Value.int (wT.1 8 8 + 1 - 1)) = some (Value.int (w.1 1 10))
    rw [t8, e88, e10, nI_1, nI_p1]
  · show upd (wT.1 42) (wT.1 8 8).toNatClampNeg a i = _
    rw [upd_at, kN, m13 42 (by decide) (by decide), ← ea]
  · show upd (wT.1 43) (wT.1 8 8).toNatClampNeg (nI 5) i = _
    rw [upd_at, kN, m13 43 (by decide) (by decide)]
  · show upd (upd (wT.1 44) (wT.1 8 8).toNatClampNeg (-5)) (wT.1 8 8 + 1 - 1).toNatClampNeg x i = _
    rw [upd_at, upd_at, kN, kN', m13 44 (by decide) (by decide)]
    split <;> rfl
  · show upd (upd (wT.1 45) (wT.1 8 8).toNatClampNeg (-5)) (wT.1 8 8 + 1 - 1).toNatClampNeg y i = _
    rw [upd_at, upd_at, kN, kN', m13 45 (by decide) (by decide)]
    split <;> rfl
  · show upd (upd (wT.1 46) (wT.1 8 8).toNatClampNeg (-5)) (wT.1 8 8 + 1 - 1).toNatClampNeg z i = _
    rw [upd_at, upd_at, kN, kN', m13 46 (by decide) (by decide)]
    split <;> rfl
  · show upd (wT.1 47) (wT.1 8 8).toNatClampNeg (-5) i = _
    rw [upd_at, kN, m13 47 (by decide) (by decide)]
  · show upd (wT.1 48) (wT.1 8 8).toNatClampNeg (-5) i = _
    rw [upd_at, kN, m13 48 (by decide) (by decide)]
  · show upd (wT.1 49) (wT.1 8 8).toNatClampNeg (-5) i = _
    rw [upd_at, kN, m13 49 (by decide) (by decide)]
  · show upd (wT.1 50) (wT.1 8 8).toNatClampNeg (-5) i = _
    rw [upd_at, kN, m13 50 (by decide) (by decide)]
  · simp only [pgI, List.mem_cons, List.not_mem_nil, or_false] at hq
    rcases hq with rfl | rfl | rfl | rfl | rfl | rfl | rfl | rfl | rfl | rfl | rfl | rfl | rfl | rfl | rfl | rfl | rfl | rfl | rfl | rfl | rfl | rfl | rfl | rfl | rfl | rfl | rfl | rfl | rfl <;> first | exact absurd (by decide) z | exact m13 _ (by decide) (by decide)
  · show wT.2 17 = _
    rw [hwT]
    exact congrFun ho.1 17
  · show wT.1 1 j = _
    rw [hwT]
    show w1.1 1 j = _
    rw [hn1]
    show upd (w.1 1) 10 _ j = _
    rw [upd_at, if_neg (fun z => by subst z; revert hj; decide)]
  · show wT.1 1 10 = _
    rw [hwT]
    show w1.1 1 10 = _
    rw [hn1]
    show w.1 1 10 + 1 = _
    rw [e10, nI_1]
  · show wT.1 8 8 + 1 = _
    rw [t8, e88, nI_1]
  · rw [← t8]
    simp only [pg8, List.mem_cons, List.not_mem_nil, or_false] at hj
    rcases hj with rfl | rfl | rfl | rfl | rfl | rfl <;> first | rfl | exact absurd rfl z
  · show wT.1 3 7 = 0
    rw [hwT]
    show w1.1 3 7 = 0
    rw [ho.2 3 (by decide)]
    rfl
  · rfl
  · show wT.1 3 5 = 0
    rw [hwT]
    show w1.1 3 5 = 0
    rw [ho.2 3 (by decide)]
    rfl
  · show wT.1 3 6 = 0
    rw [hwT]
    show w1.1 3 6 = 0
    rw [ho.2 3 (by decide)]
    rfl
  · show wT.1 4 6 = 0
    rw [hwT]
    show w1.1 4 6 = 0
    rw [ho.2 4 (by decide)]
    rfl
  · simp only [List.mem_cons, List.not_mem_nil, or_false] at hq
    rcases hq with rfl | rfl | rfl | rfl | rfl | rfl | rfl | rfl | rfl | rfl | rfl | rfl | rfl <;> exact m13 _ (by decide) (by decide)
  · show wT.1 8 0 = _
    rw [t8]
  · show wT.1 8 44 = _
    rw [t8]
set_option maxHeartbeats 16000000 in
theorem nd_6 {w : qq_w} {N Pn E n : Nat} {a x y z : Int32} (h : Inv w) (H : iPrg w N Pn E) (hF : iFnd w) (hT : iTrk w) (hS : iSol w N Pn) (hn : n < Pn) (ea : a = nI n) (k1 : ¬ a < 0) (k2 : ¬ w.1 1 9 ≤ a) (k3 : 0 ≤ a ∧ a ≤ w.1 8 2 - 1) (hv : vp_in a 8) (hr1 : ¬ 64 < w.1 1 10 + 1) (hN64 : N < 64) (xX0 : iVar w n x) (xX1 : ¬ x ≤ 0) (xX2 : ¬ 5 + w.1 9 a.toNatClampNeg ≤ x) (xX4 : 1 ≤ x ∧ x ≤ 4 + w.1 37 a.toNatClampNeg) : T_X7_node [.ref 0, .int a, .int (nI 6), .int x, .int y, .int z] w (fun v w1 => ∃ X : Int32, v = some (.int X) ∧ T_X8_node [.ref 8, .int a, .int (nI 6), .int x, .int y, .int z] w1 (fun v' w2 => v' = some (.int X) ∧ Inv w2)) := by
  obtain ⟨hN, hP, hE, e10, e88, -⟩ := H.1
  have q10 : qn (w.1 1 10) = N := (iP_P H).2.2.1
  have v10 : vp_in (w.1 1 10) 64 := i_in 64 e10 hN64 (by decide)
  have v88 : vp_in (w.1 8 8) 64 := i_in 64 e88 hN64 (by decide)
  have n88 : ¬ w.1 8 8 = 64 := fun z => by
    rw [e88] at z
    have := nI_inj (b := 64) (by omega) (by decide) z
    omega
  have f88 : w.1 8 8 + 1 - 1 = nI N := by rw [e88, nI_1, nI_p1]
  have w88 : vp_in (w.1 8 8 + 1 - 1) 64 := i_in 64 f88 hN64 (by decide)
  have c88 : (w.1 8 8).toNatClampNeg = N := i_c e88 (by omega)
  have d88 : (w.1 8 8 + 1 - 1).toNatClampNeg = N := i_c f88 (by omega)
  have j2 := nI_ml e10 (x := 2) (i := 2) rfl (nI_lit 10)
  have j3 := nI_ml e10 (x := 3) (i := 3) rfl (nI_lit 10)
  have j4 := nI_ml e10 (x := 4) (i := 4) rfl (nI_lit 10)
  have i2 : (w.1 1 10 * 10 + 2).toNatClampNeg = 10 * N + 2 := i_c j2 (by omega)
  have i3 : (w.1 1 10 * 10 + 3).toNatClampNeg = 10 * N + 3 := i_c j3 (by omega)
  have i4 : (w.1 1 10 * 10 + 4).toNatClampNeg = 10 * N + 4 := i_c j4 (by omega)
  have vi2 : vp_in (w.1 1 10 * 10 + 2) 640 := i_in 640 j2 (by omega) (by decide)
  have vi3 : vp_in (w.1 1 10 * 10 + 3) 640 := i_in 640 j3 (by omega) (by decide)
  have vi4 : vp_in (w.1 1 10 * 10 + 4) 640 := i_in 640 j4 (by omega) (by decide)
  have hvk : vp_in (nI 6) 11 := i_in 11 rfl (by decide) (by decide)
  have hu : ¬ qq_under (qn (nI 6)) 4 := by
    unfold qq_under
    decide
  clear j2 j3 j4
  conv => whnf
  (repeat ((first | refine br_t (by decide) ?_ | refine br_f (by decide) ?_ | refine br_nt (by decide) ?_ | refine br_nf (by decide) ?_ | refine br_t (by with_reducible assumption) ?_ | refine br_f (by with_reducible assumption) ?_ | refine br_nt (by with_reducible assumption) ?_ | refine br_nf (by with_reducible assumption) ?_ | refine And.intro (by with_reducible assumption) ?_ | refine ⟨Or.inl rfl, ?_⟩ | refine br_t (by assumption) ?_ | refine br_f (by assumption) ?_ | refine br_nt (by assumption) ?_ | refine br_nf (by assumption) ?_ | refine And.intro (by assumption) ?_); (conv => whnf)))
  intro w1 hw1
  obtain ⟨ho, hn1, h13⟩ := hw1
  conv => whnf
  (repeat ((first | refine br_t (by decide) ?_ | refine br_f (by decide) ?_ | refine br_nt (by decide) ?_ | refine br_nf (by decide) ?_ | refine br_t (by with_reducible assumption) ?_ | refine br_f (by with_reducible assumption) ?_ | refine br_nt (by with_reducible assumption) ?_ | refine br_nf (by with_reducible assumption) ?_ | refine And.intro (by with_reducible assumption) ?_ | refine ⟨Or.inl rfl, ?_⟩ | refine br_t (by assumption) ?_ | refine br_f (by assumption) ?_ | refine br_nt (by assumption) ?_ | refine br_nf (by assumption) ?_ | refine And.intro (by assumption) ?_); (conv => whnf)))
  refine ⟨_, rfl, gen_w (T := T_X8_node) (fun wT hwT => ?_)⟩
  have t8 : wT.1 8 = w.1 8 := by
    rw [hwT]
    exact ho.2 8 (by decide)
  have t37 : wT.1 37 = w.1 37 := by
    rw [hwT]
    exact ho.2 37 (by decide)
  have k3' : 0 ≤ a ∧ a ≤ wT.1 8 2 - 1 := by
    rw [t8]
    exact k3
  have xX' : 1 ≤ x ∧ x ≤ 4 + wT.1 37 a.toNatClampNeg := by
    rw [t37]
    exact xX4
  have u88 : ¬ wT.1 8 8 = 64 := by
    rw [t8]
    exact n88
  have v88' : vp_in (wT.1 8 8) 64 := by
    rw [t8]
    exact v88
  have w88' : vp_in (wT.1 8 8 + 1 - 1) 64 := by
    rw [t8]
    exact w88
  conv => whnf
  (repeat ((first | refine br_t (by decide) ?_ | refine br_f (by decide) ?_ | refine br_nt (by decide) ?_ | refine br_nf (by decide) ?_ | refine ⟨_, rfl, ?_⟩ | refine br_t (by with_reducible assumption) ?_ | refine br_f (by with_reducible assumption) ?_ | refine br_nt (by with_reducible assumption) ?_ | refine br_nf (by with_reducible assumption) ?_ | refine ⟨by with_reducible assumption, ?_⟩ | refine ⟨Or.inl rfl, ?_⟩ | refine br_t (by assumption) ?_ | refine br_f (by assumption) ?_ | refine br_nt (by assumption) ?_ | refine br_nf (by assumption) ?_ | refine ⟨by assumption, ?_⟩); (conv => whnf)))
  have kN : (wT.1 8 8).toNatClampNeg = N := by
    rw [t8]
    exact c88
  have kN' : (wT.1 8 8 + 1 - 1).toNatClampNeg = N := by
    rw [t8]
    exact d88
  have m13 : ∀ q, q ∉ [1, 13] → q ∉ [3, 4] → wT.1 q = w.1 q := fun q z1 z2 => by
    have z13 : q ≠ 13 := fun z => z1 (by simp [z])
    have z3 : q ≠ 3 := fun z => z2 (by simp [z])
    have z4 : q ≠ 4 := fun z => z2 (by simp [z])
    rw [hwT]
    simp only [qq_ui, va_up, z13, if_false]
    rw [ho.2 q z1]
    simp only [qq_ui, va_up, z3, z4, if_false]
  have hr13 : ∀ i j, j < 10 → wT.1 13 (10 * i + j) = if i = N then rowN a (nI 6) x (-5) (-5) j else w.1 13 (10 * i + j) := by
    intro i j hj
    rw [hwT]
    show upd (upd (upd (w1.1 13) (w.1 1 10 * 10 + 2).toNatClampNeg x) (w.1 1 10 * 10 + 3).toNatClampNeg (-5)) (w.1 1 10 * 10 + 4).toNatClampNeg (-5) (10 * i + j) = _
    rw [i2, i3, i4, upd_at, upd_at, upd_at, h13 (10 * i + j)]
    exact row_at q10 hj
  refine ⟨?_, Inv_end2 (w := w) (N := N + 1) (Pn := Pn) (E := E) hF hT hS.1 (prg_node (p := n) (k := 6) (X := x) (Y := (-5)) (Z := (-5)) H (by omega) hn (by omega) (by omega) ⟨fun _ => xX0, fun z => by omega⟩ ⟨fun z => by omega, fun _ => rfl⟩ ⟨fun z => by omega, fun _ => rfl⟩ (by rw [← ea]; exact hr13) (fun i => ?_) (fun i => ?_) (fun i => ?_) (fun i => ?_) (fun i => ?_) (fun i => ?_) (fun i => ?_) (fun i => ?_) (fun i => ?_) (fun q hq z => ?_) ?_ (fun j hj => ?_) ?_ ?_ (fun j hj z => ?_)) ?_ ?_ ?_ ?_ ?_ (fun q hq => ?_) ?_ ?_⟩
  · show some (Value.int (wT.1 8 8 + 1 - 1)) = some (Value.int (w.1 1 10))
    rw [t8, e88, e10, nI_1, nI_p1]
  · show upd (wT.1 42) (wT.1 8 8).toNatClampNeg a i = _
    rw [upd_at, kN, m13 42 (by decide) (by decide), ← ea]
  · show upd (wT.1 43) (wT.1 8 8).toNatClampNeg (nI 6) i = _
    rw [upd_at, kN, m13 43 (by decide) (by decide)]
  · show upd (upd (wT.1 44) (wT.1 8 8).toNatClampNeg (-5)) (wT.1 8 8 + 1 - 1).toNatClampNeg x i = _
    rw [upd_at, upd_at, kN, kN', m13 44 (by decide) (by decide)]
    split <;> rfl
  · show upd (upd (wT.1 45) (wT.1 8 8).toNatClampNeg (-5)) (wT.1 8 8 + 1 - 1).toNatClampNeg (-5) i = _
    rw [upd_at, upd_at, kN, kN', m13 45 (by decide) (by decide)]
    split <;> rfl
  · show upd (upd (wT.1 46) (wT.1 8 8).toNatClampNeg (-5)) (wT.1 8 8 + 1 - 1).toNatClampNeg (-5) i = _
    rw [upd_at, upd_at, kN, kN', m13 46 (by decide) (by decide)]
    split <;> rfl
  · show upd (wT.1 47) (wT.1 8 8).toNatClampNeg (-5) i = _
    rw [upd_at, kN, m13 47 (by decide) (by decide)]
  · show upd (wT.1 48) (wT.1 8 8).toNatClampNeg (-5) i = _
    rw [upd_at, kN, m13 48 (by decide) (by decide)]
  · show upd (wT.1 49) (wT.1 8 8).toNatClampNeg (-5) i = _
    rw [upd_at, kN, m13 49 (by decide) (by decide)]
  · show upd (wT.1 50) (wT.1 8 8).toNatClampNeg (-5) i = _
    rw [upd_at, kN, m13 50 (by decide) (by decide)]
  · simp only [pgI, List.mem_cons, List.not_mem_nil, or_false] at hq
    rcases hq with rfl | rfl | rfl | rfl | rfl | rfl | rfl | rfl | rfl | rfl | rfl | rfl | rfl | rfl | rfl | rfl | rfl | rfl | rfl | rfl | rfl | rfl | rfl | rfl | rfl | rfl | rfl | rfl | rfl <;> first | exact absurd (by decide) z | exact m13 _ (by decide) (by decide)
  · show wT.2 17 = _
    rw [hwT]
    exact congrFun ho.1 17
  · show wT.1 1 j = _
    rw [hwT]
    show w1.1 1 j = _
    rw [hn1]
    show upd (w.1 1) 10 _ j = _
    rw [upd_at, if_neg (fun z => by subst z; revert hj; decide)]
  · show wT.1 1 10 = _
    rw [hwT]
    show w1.1 1 10 = _
    rw [hn1]
    show w.1 1 10 + 1 = _
    rw [e10, nI_1]
  · show wT.1 8 8 + 1 = _
    rw [t8, e88, nI_1]
  · rw [← t8]
    simp only [pg8, List.mem_cons, List.not_mem_nil, or_false] at hj
    rcases hj with rfl | rfl | rfl | rfl | rfl | rfl <;> first | rfl | exact absurd rfl z
  · show wT.1 3 7 = 0
    rw [hwT]
    show w1.1 3 7 = 0
    rw [ho.2 3 (by decide)]
    rfl
  · rfl
  · show wT.1 3 5 = 0
    rw [hwT]
    show w1.1 3 5 = 0
    rw [ho.2 3 (by decide)]
    rfl
  · show wT.1 3 6 = 0
    rw [hwT]
    show w1.1 3 6 = 0
    rw [ho.2 3 (by decide)]
    rfl
  · show wT.1 4 6 = 0
    rw [hwT]
    show w1.1 4 6 = 0
    rw [ho.2 4 (by decide)]
    rfl
  · simp only [List.mem_cons, List.not_mem_nil, or_false] at hq
    rcases hq with rfl | rfl | rfl | rfl | rfl | rfl | rfl | rfl | rfl | rfl | rfl | rfl | rfl <;> exact m13 _ (by decide) (by decide)
  · show wT.1 8 0 = _
    rw [t8]
  · show wT.1 8 44 = _
    rw [t8]
set_option maxHeartbeats 16000000 in
theorem nd_7 {w : qq_w} {N Pn E n : Nat} {a x y z : Int32} (h : Inv w) (H : iPrg w N Pn E) (hF : iFnd w) (hT : iTrk w) (hS : iSol w N Pn) (hn : n < Pn) (ea : a = nI n) (k1 : ¬ a < 0) (k2 : ¬ w.1 1 9 ≤ a) (k3 : 0 ≤ a ∧ a ≤ w.1 8 2 - 1) (hv : vp_in a 8) (hr1 : ¬ 64 < w.1 1 10 + 1) (hN64 : N < 64) (xX0 : iVar w n x) (xX1 : ¬ x ≤ 0) (xX2 : ¬ 5 + w.1 9 a.toNatClampNeg ≤ x) (xX4 : 1 ≤ x ∧ x ≤ 4 + w.1 37 a.toNatClampNeg) : T_X7_node [.ref 0, .int a, .int (nI 7), .int x, .int y, .int z] w (fun v w1 => ∃ X : Int32, v = some (.int X) ∧ T_X8_node [.ref 8, .int a, .int (nI 7), .int x, .int y, .int z] w1 (fun v' w2 => v' = some (.int X) ∧ Inv w2)) := by
  obtain ⟨hN, hP, hE, e10, e88, -⟩ := H.1
  have q10 : qn (w.1 1 10) = N := (iP_P H).2.2.1
  have v10 : vp_in (w.1 1 10) 64 := i_in 64 e10 hN64 (by decide)
  have v88 : vp_in (w.1 8 8) 64 := i_in 64 e88 hN64 (by decide)
  have n88 : ¬ w.1 8 8 = 64 := fun z => by
    rw [e88] at z
    have := nI_inj (b := 64) (by omega) (by decide) z
    omega
  have f88 : w.1 8 8 + 1 - 1 = nI N := by rw [e88, nI_1, nI_p1]
  have w88 : vp_in (w.1 8 8 + 1 - 1) 64 := i_in 64 f88 hN64 (by decide)
  have c88 : (w.1 8 8).toNatClampNeg = N := i_c e88 (by omega)
  have d88 : (w.1 8 8 + 1 - 1).toNatClampNeg = N := i_c f88 (by omega)
  have j2 := nI_ml e10 (x := 2) (i := 2) rfl (nI_lit 10)
  have j3 := nI_ml e10 (x := 3) (i := 3) rfl (nI_lit 10)
  have j4 := nI_ml e10 (x := 4) (i := 4) rfl (nI_lit 10)
  have i2 : (w.1 1 10 * 10 + 2).toNatClampNeg = 10 * N + 2 := i_c j2 (by omega)
  have i3 : (w.1 1 10 * 10 + 3).toNatClampNeg = 10 * N + 3 := i_c j3 (by omega)
  have i4 : (w.1 1 10 * 10 + 4).toNatClampNeg = 10 * N + 4 := i_c j4 (by omega)
  have vi2 : vp_in (w.1 1 10 * 10 + 2) 640 := i_in 640 j2 (by omega) (by decide)
  have vi3 : vp_in (w.1 1 10 * 10 + 3) 640 := i_in 640 j3 (by omega) (by decide)
  have vi4 : vp_in (w.1 1 10 * 10 + 4) 640 := i_in 640 j4 (by omega) (by decide)
  have hvk : vp_in (nI 7) 11 := i_in 11 rfl (by decide) (by decide)
  have hu : ¬ qq_under (qn (nI 7)) 4 := by
    unfold qq_under
    decide
  clear j2 j3 j4
  conv => whnf
  (repeat ((first | refine br_t (by decide) ?_ | refine br_f (by decide) ?_ | refine br_nt (by decide) ?_ | refine br_nf (by decide) ?_ | refine br_t (by with_reducible assumption) ?_ | refine br_f (by with_reducible assumption) ?_ | refine br_nt (by with_reducible assumption) ?_ | refine br_nf (by with_reducible assumption) ?_ | refine And.intro (by with_reducible assumption) ?_ | refine ⟨Or.inl rfl, ?_⟩ | refine br_t (by assumption) ?_ | refine br_f (by assumption) ?_ | refine br_nt (by assumption) ?_ | refine br_nf (by assumption) ?_ | refine And.intro (by assumption) ?_); (conv => whnf)))
  intro w1 hw1
  obtain ⟨ho, hn1, h13⟩ := hw1
  conv => whnf
  (repeat ((first | refine br_t (by decide) ?_ | refine br_f (by decide) ?_ | refine br_nt (by decide) ?_ | refine br_nf (by decide) ?_ | refine br_t (by with_reducible assumption) ?_ | refine br_f (by with_reducible assumption) ?_ | refine br_nt (by with_reducible assumption) ?_ | refine br_nf (by with_reducible assumption) ?_ | refine And.intro (by with_reducible assumption) ?_ | refine ⟨Or.inl rfl, ?_⟩ | refine br_t (by assumption) ?_ | refine br_f (by assumption) ?_ | refine br_nt (by assumption) ?_ | refine br_nf (by assumption) ?_ | refine And.intro (by assumption) ?_); (conv => whnf)))
  refine ⟨_, rfl, gen_w (T := T_X8_node) (fun wT hwT => ?_)⟩
  have t8 : wT.1 8 = w.1 8 := by
    rw [hwT]
    exact ho.2 8 (by decide)
  have t37 : wT.1 37 = w.1 37 := by
    rw [hwT]
    exact ho.2 37 (by decide)
  have k3' : 0 ≤ a ∧ a ≤ wT.1 8 2 - 1 := by
    rw [t8]
    exact k3
  have xX' : 1 ≤ x ∧ x ≤ 4 + wT.1 37 a.toNatClampNeg := by
    rw [t37]
    exact xX4
  have u88 : ¬ wT.1 8 8 = 64 := by
    rw [t8]
    exact n88
  have v88' : vp_in (wT.1 8 8) 64 := by
    rw [t8]
    exact v88
  have w88' : vp_in (wT.1 8 8 + 1 - 1) 64 := by
    rw [t8]
    exact w88
  conv => whnf
  (repeat ((first | refine br_t (by decide) ?_ | refine br_f (by decide) ?_ | refine br_nt (by decide) ?_ | refine br_nf (by decide) ?_ | refine ⟨_, rfl, ?_⟩ | refine br_t (by with_reducible assumption) ?_ | refine br_f (by with_reducible assumption) ?_ | refine br_nt (by with_reducible assumption) ?_ | refine br_nf (by with_reducible assumption) ?_ | refine ⟨by with_reducible assumption, ?_⟩ | refine ⟨Or.inl rfl, ?_⟩ | refine br_t (by assumption) ?_ | refine br_f (by assumption) ?_ | refine br_nt (by assumption) ?_ | refine br_nf (by assumption) ?_ | refine ⟨by assumption, ?_⟩); (conv => whnf)))
  have kN : (wT.1 8 8).toNatClampNeg = N := by
    rw [t8]
    exact c88
  have kN' : (wT.1 8 8 + 1 - 1).toNatClampNeg = N := by
    rw [t8]
    exact d88
  have m13 : ∀ q, q ∉ [1, 13] → q ∉ [3, 4] → wT.1 q = w.1 q := fun q z1 z2 => by
    have z13 : q ≠ 13 := fun z => z1 (by simp [z])
    have z3 : q ≠ 3 := fun z => z2 (by simp [z])
    have z4 : q ≠ 4 := fun z => z2 (by simp [z])
    rw [hwT]
    simp only [qq_ui, va_up, z13, if_false]
    rw [ho.2 q z1]
    simp only [qq_ui, va_up, z3, z4, if_false]
  have hr13 : ∀ i j, j < 10 → wT.1 13 (10 * i + j) = if i = N then rowN a (nI 7) x (-5) (-5) j else w.1 13 (10 * i + j) := by
    intro i j hj
    rw [hwT]
    show upd (upd (upd (w1.1 13) (w.1 1 10 * 10 + 2).toNatClampNeg x) (w.1 1 10 * 10 + 3).toNatClampNeg (-5)) (w.1 1 10 * 10 + 4).toNatClampNeg (-5) (10 * i + j) = _
    rw [i2, i3, i4, upd_at, upd_at, upd_at, h13 (10 * i + j)]
    exact row_at q10 hj
  refine ⟨?_, Inv_end2 (w := w) (N := N + 1) (Pn := Pn) (E := E) hF hT hS.1 (prg_node (p := n) (k := 7) (X := x) (Y := (-5)) (Z := (-5)) H (by omega) hn (by omega) (by omega) ⟨fun _ => xX0, fun z => by omega⟩ ⟨fun z => by omega, fun _ => rfl⟩ ⟨fun z => by omega, fun _ => rfl⟩ (by rw [← ea]; exact hr13) (fun i => ?_) (fun i => ?_) (fun i => ?_) (fun i => ?_) (fun i => ?_) (fun i => ?_) (fun i => ?_) (fun i => ?_) (fun i => ?_) (fun q hq z => ?_) ?_ (fun j hj => ?_) ?_ ?_ (fun j hj z => ?_)) ?_ ?_ ?_ ?_ ?_ (fun q hq => ?_) ?_ ?_⟩
  · show some (Value.int (wT.1 8 8 + 1 - 1)) = some (Value.int (w.1 1 10))
    rw [t8, e88, e10, nI_1, nI_p1]
  · show upd (wT.1 42) (wT.1 8 8).toNatClampNeg a i = _
    rw [upd_at, kN, m13 42 (by decide) (by decide), ← ea]
  · show upd (wT.1 43) (wT.1 8 8).toNatClampNeg (nI 7) i = _
    rw [upd_at, kN, m13 43 (by decide) (by decide)]
  · show upd (upd (wT.1 44) (wT.1 8 8).toNatClampNeg (-5)) (wT.1 8 8 + 1 - 1).toNatClampNeg x i = _
    rw [upd_at, upd_at, kN, kN', m13 44 (by decide) (by decide)]
    split <;> rfl
  · show upd (upd (wT.1 45) (wT.1 8 8).toNatClampNeg (-5)) (wT.1 8 8 + 1 - 1).toNatClampNeg (-5) i = _
    rw [upd_at, upd_at, kN, kN', m13 45 (by decide) (by decide)]
    split <;> rfl
  · show upd (upd (wT.1 46) (wT.1 8 8).toNatClampNeg (-5)) (wT.1 8 8 + 1 - 1).toNatClampNeg (-5) i = _
    rw [upd_at, upd_at, kN, kN', m13 46 (by decide) (by decide)]
    split <;> rfl
  · show upd (wT.1 47) (wT.1 8 8).toNatClampNeg (-5) i = _
    rw [upd_at, kN, m13 47 (by decide) (by decide)]
  · show upd (wT.1 48) (wT.1 8 8).toNatClampNeg (-5) i = _
    rw [upd_at, kN, m13 48 (by decide) (by decide)]
  · show upd (wT.1 49) (wT.1 8 8).toNatClampNeg (-5) i = _
    rw [upd_at, kN, m13 49 (by decide) (by decide)]
  · show upd (wT.1 50) (wT.1 8 8).toNatClampNeg (-5) i = _
    rw [upd_at, kN, m13 50 (by decide) (by decide)]
  · simp only [pgI, List.mem_cons, List.not_mem_nil, or_false] at hq
    rcases hq with rfl | rfl | rfl | rfl | rfl | rfl | rfl | rfl | rfl | rfl | rfl | rfl | rfl | rfl | rfl | rfl | rfl | rfl | rfl | rfl | rfl | rfl | rfl | rfl | rfl | rfl | rfl | rfl | rfl <;> first | exact absurd (by decide) z | exact m13 _ (by decide) (by decide)
  · show wT.2 17 = _
    rw [hwT]
    exact congrFun ho.1 17
  · show wT.1 1 j = _
    rw [hwT]
    show w1.1 1 j = _
    rw [hn1]
    show upd (w.1 1) 10 _ j = _
    rw [upd_at, if_neg (fun z => by subst z; revert hj; decide)]
  · show wT.1 1 10 = _
    rw [hwT]
    show w1.1 1 10 = _
    rw [hn1]
    show w.1 1 10 + 1 = _
    rw [e10, nI_1]
  · show wT.1 8 8 + 1 = _
    rw [t8, e88, nI_1]
  · rw [← t8]
    simp only [pg8, List.mem_cons, List.not_mem_nil, or_false] at hj
    rcases hj with rfl | rfl | rfl | rfl | rfl | rfl <;> first | rfl | exact absurd rfl z
  · show wT.1 3 7 = 0
    rw [hwT]
    show w1.1 3 7 = 0
    rw [ho.2 3 (by decide)]
    rfl
  · rfl
  · show wT.1 3 5 = 0
    rw [hwT]
    show w1.1 3 5 = 0
    rw [ho.2 3 (by decide)]
    rfl
  · show wT.1 3 6 = 0
    rw [hwT]
    show w1.1 3 6 = 0
    rw [ho.2 3 (by decide)]
    rfl
  · show wT.1 4 6 = 0
    rw [hwT]
    show w1.1 4 6 = 0
    rw [ho.2 4 (by decide)]
    rfl
  · simp only [List.mem_cons, List.not_mem_nil, or_false] at hq
    rcases hq with rfl | rfl | rfl | rfl | rfl | rfl | rfl | rfl | rfl | rfl | rfl | rfl | rfl <;> exact m13 _ (by decide) (by decide)
  · show wT.1 8 0 = _
    rw [t8]
  · show wT.1 8 44 = _
    rw [t8]
set_option maxHeartbeats 16000000 in
theorem nd_8 {w : qq_w} {N Pn E n : Nat} {a x y z : Int32} (h : Inv w) (H : iPrg w N Pn E) (hF : iFnd w) (hT : iTrk w) (hS : iSol w N Pn) (hn : n < Pn) (ea : a = nI n) (k1 : ¬ a < 0) (k2 : ¬ w.1 1 9 ≤ a) (k3 : 0 ≤ a ∧ a ≤ w.1 8 2 - 1) (hv : vp_in a 8) (hr1 : ¬ 64 < w.1 1 10 + 1) (hN64 : N < 64) (xX0 : iVar w n x) (xX1 : ¬ x ≤ 0) (xX2 : ¬ 5 + w.1 9 a.toNatClampNeg ≤ x) (xX4 : 1 ≤ x ∧ x ≤ 4 + w.1 37 a.toNatClampNeg) : T_X7_node [.ref 0, .int a, .int (nI 8), .int x, .int y, .int z] w (fun v w1 => ∃ X : Int32, v = some (.int X) ∧ T_X8_node [.ref 8, .int a, .int (nI 8), .int x, .int y, .int z] w1 (fun v' w2 => v' = some (.int X) ∧ Inv w2)) := by
  obtain ⟨hN, hP, hE, e10, e88, -⟩ := H.1
  have q10 : qn (w.1 1 10) = N := (iP_P H).2.2.1
  have v10 : vp_in (w.1 1 10) 64 := i_in 64 e10 hN64 (by decide)
  have v88 : vp_in (w.1 8 8) 64 := i_in 64 e88 hN64 (by decide)
  have n88 : ¬ w.1 8 8 = 64 := fun z => by
    rw [e88] at z
    have := nI_inj (b := 64) (by omega) (by decide) z
    omega
  have f88 : w.1 8 8 + 1 - 1 = nI N := by rw [e88, nI_1, nI_p1]
  have w88 : vp_in (w.1 8 8 + 1 - 1) 64 := i_in 64 f88 hN64 (by decide)
  have c88 : (w.1 8 8).toNatClampNeg = N := i_c e88 (by omega)
  have d88 : (w.1 8 8 + 1 - 1).toNatClampNeg = N := i_c f88 (by omega)
  have j2 := nI_ml e10 (x := 2) (i := 2) rfl (nI_lit 10)
  have j3 := nI_ml e10 (x := 3) (i := 3) rfl (nI_lit 10)
  have j4 := nI_ml e10 (x := 4) (i := 4) rfl (nI_lit 10)
  have i2 : (w.1 1 10 * 10 + 2).toNatClampNeg = 10 * N + 2 := i_c j2 (by omega)
  have i3 : (w.1 1 10 * 10 + 3).toNatClampNeg = 10 * N + 3 := i_c j3 (by omega)
  have i4 : (w.1 1 10 * 10 + 4).toNatClampNeg = 10 * N + 4 := i_c j4 (by omega)
  have vi2 : vp_in (w.1 1 10 * 10 + 2) 640 := i_in 640 j2 (by omega) (by decide)
  have vi3 : vp_in (w.1 1 10 * 10 + 3) 640 := i_in 640 j3 (by omega) (by decide)
  have vi4 : vp_in (w.1 1 10 * 10 + 4) 640 := i_in 640 j4 (by omega) (by decide)
  have hvk : vp_in (nI 8) 11 := i_in 11 rfl (by decide) (by decide)
  have hu : ¬ qq_under (qn (nI 8)) 4 := by
    unfold qq_under
    decide
  clear j2 j3 j4
  conv => whnf
  (repeat ((first | refine br_t (by decide) ?_ | refine br_f (by decide) ?_ | refine br_nt (by decide) ?_ | refine br_nf (by decide) ?_ | refine br_t (by with_reducible assumption) ?_ | refine br_f (by with_reducible assumption) ?_ | refine br_nt (by with_reducible assumption) ?_ | refine br_nf (by with_reducible assumption) ?_ | refine And.intro (by with_reducible assumption) ?_ | refine ⟨Or.inl rfl, ?_⟩ | refine br_t (by assumption) ?_ | refine br_f (by assumption) ?_ | refine br_nt (by assumption) ?_ | refine br_nf (by assumption) ?_ | refine And.intro (by assumption) ?_); (conv => whnf)))
  intro w1 hw1
  obtain ⟨ho, hn1, h13⟩ := hw1
  conv => whnf
  (repeat ((first | refine br_t (by decide) ?_ | refine br_f (by decide) ?_ | refine br_nt (by decide) ?_ | refine br_nf (by decide) ?_ | refine br_t (by with_reducible assumption) ?_ | refine br_f (by with_reducible assumption) ?_ | refine br_nt (by with_reducible assumption) ?_ | refine br_nf (by with_reducible assumption) ?_ | refine And.intro (by with_reducible assumption) ?_ | refine ⟨Or.inl rfl, ?_⟩ | refine br_t (by assumption) ?_ | refine br_f (by assumption) ?_ | refine br_nt (by assumption) ?_ | refine br_nf (by assumption) ?_ | refine And.intro (by assumption) ?_); (conv => whnf)))
  refine ⟨_, rfl, gen_w (T := T_X8_node) (fun wT hwT => ?_)⟩
  have t8 : wT.1 8 = w.1 8 := by
    rw [hwT]
    exact ho.2 8 (by decide)
  have t37 : wT.1 37 = w.1 37 := by
    rw [hwT]
    exact ho.2 37 (by decide)
  have k3' : 0 ≤ a ∧ a ≤ wT.1 8 2 - 1 := by
    rw [t8]
    exact k3
  have xX' : 1 ≤ x ∧ x ≤ 4 + wT.1 37 a.toNatClampNeg := by
    rw [t37]
    exact xX4
  have u88 : ¬ wT.1 8 8 = 64 := by
    rw [t8]
    exact n88
  have v88' : vp_in (wT.1 8 8) 64 := by
    rw [t8]
    exact v88
  have w88' : vp_in (wT.1 8 8 + 1 - 1) 64 := by
    rw [t8]
    exact w88
  conv => whnf
  (repeat ((first | refine br_t (by decide) ?_ | refine br_f (by decide) ?_ | refine br_nt (by decide) ?_ | refine br_nf (by decide) ?_ | refine ⟨_, rfl, ?_⟩ | refine br_t (by with_reducible assumption) ?_ | refine br_f (by with_reducible assumption) ?_ | refine br_nt (by with_reducible assumption) ?_ | refine br_nf (by with_reducible assumption) ?_ | refine ⟨by with_reducible assumption, ?_⟩ | refine ⟨Or.inl rfl, ?_⟩ | refine br_t (by assumption) ?_ | refine br_f (by assumption) ?_ | refine br_nt (by assumption) ?_ | refine br_nf (by assumption) ?_ | refine ⟨by assumption, ?_⟩); (conv => whnf)))
  have kN : (wT.1 8 8).toNatClampNeg = N := by
    rw [t8]
    exact c88
  have kN' : (wT.1 8 8 + 1 - 1).toNatClampNeg = N := by
    rw [t8]
    exact d88
  have m13 : ∀ q, q ∉ [1, 13] → q ∉ [3, 4] → wT.1 q = w.1 q := fun q z1 z2 => by
    have z13 : q ≠ 13 := fun z => z1 (by simp [z])
    have z3 : q ≠ 3 := fun z => z2 (by simp [z])
    have z4 : q ≠ 4 := fun z => z2 (by simp [z])
    rw [hwT]
    simp only [qq_ui, va_up, z13, if_false]
    rw [ho.2 q z1]
    simp only [qq_ui, va_up, z3, z4, if_false]
  have hr13 : ∀ i j, j < 10 → wT.1 13 (10 * i + j) = if i = N then rowN a (nI 8) x (-5) (-5) j else w.1 13 (10 * i + j) := by
    intro i j hj
    rw [hwT]
    show upd (upd (upd (w1.1 13) (w.1 1 10 * 10 + 2).toNatClampNeg x) (w.1 1 10 * 10 + 3).toNatClampNeg (-5)) (w.1 1 10 * 10 + 4).toNatClampNeg (-5) (10 * i + j) = _
    rw [i2, i3, i4, upd_at, upd_at, upd_at, h13 (10 * i + j)]
    exact row_at q10 hj
  refine ⟨?_, Inv_end2 (w := w) (N := N + 1) (Pn := Pn) (E := E) hF hT hS.1 (prg_node (p := n) (k := 8) (X := x) (Y := (-5)) (Z := (-5)) H (by omega) hn (by omega) (by omega) ⟨fun _ => xX0, fun z => by omega⟩ ⟨fun z => by omega, fun _ => rfl⟩ ⟨fun z => by omega, fun _ => rfl⟩ (by rw [← ea]; exact hr13) (fun i => ?_) (fun i => ?_) (fun i => ?_) (fun i => ?_) (fun i => ?_) (fun i => ?_) (fun i => ?_) (fun i => ?_) (fun i => ?_) (fun q hq z => ?_) ?_ (fun j hj => ?_) ?_ ?_ (fun j hj z => ?_)) ?_ ?_ ?_ ?_ ?_ (fun q hq => ?_) ?_ ?_⟩
  · show some (Value.int (wT.1 8 8 + 1 - 1)) = some (Value.int (w.1 1 10))
    rw [t8, e88, e10, nI_1, nI_p1]
  · show upd (wT.1 42) (wT.1 8 8).toNatClampNeg a i = _
    rw [upd_at, kN, m13 42 (by decide) (by decide), ← ea]
  · show upd (wT.1 43) (wT.1 8 8).toNatClampNeg (nI 8) i = _
    rw [upd_at, kN, m13 43 (by decide) (by decide)]
  · show upd (upd (wT.1 44) (wT.1 8 8).toNatClampNeg (-5)) (wT.1 8 8 + 1 - 1).toNatClampNeg x i = _
    rw [upd_at, upd_at, kN, kN', m13 44 (by decide) (by decide)]
    split <;> rfl
  · show upd (upd (wT.1 45) (wT.1 8 8).toNatClampNeg (-5)) (wT.1 8 8 + 1 - 1).toNatClampNeg (-5) i = _
    rw [upd_at, upd_at, kN, kN', m13 45 (by decide) (by decide)]
    split <;> rfl
  · show upd (upd (wT.1 46) (wT.1 8 8).toNatClampNeg (-5)) (wT.1 8 8 + 1 - 1).toNatClampNeg (-5) i = _
    rw [upd_at, upd_at, kN, kN', m13 46 (by decide) (by decide)]
    split <;> rfl
  · show upd (wT.1 47) (wT.1 8 8).toNatClampNeg (-5) i = _
    rw [upd_at, kN, m13 47 (by decide) (by decide)]
  · show upd (wT.1 48) (wT.1 8 8).toNatClampNeg (-5) i = _
    rw [upd_at, kN, m13 48 (by decide) (by decide)]
  · show upd (wT.1 49) (wT.1 8 8).toNatClampNeg (-5) i = _
    rw [upd_at, kN, m13 49 (by decide) (by decide)]
  · show upd (wT.1 50) (wT.1 8 8).toNatClampNeg (-5) i = _
    rw [upd_at, kN, m13 50 (by decide) (by decide)]
  · simp only [pgI, List.mem_cons, List.not_mem_nil, or_false] at hq
    rcases hq with rfl | rfl | rfl | rfl | rfl | rfl | rfl | rfl | rfl | rfl | rfl | rfl | rfl | rfl | rfl | rfl | rfl | rfl | rfl | rfl | rfl | rfl | rfl | rfl | rfl | rfl | rfl | rfl | rfl <;> first | exact absurd (by decide) z | exact m13 _ (by decide) (by decide)
  · show wT.2 17 = _
    rw [hwT]
    exact congrFun ho.1 17
  · show wT.1 1 j = _
    rw [hwT]
    show w1.1 1 j = _
    rw [hn1]
    show upd (w.1 1) 10 _ j = _
    rw [upd_at, if_neg (fun z => by subst z; revert hj; decide)]
  · show wT.1 1 10 = _
    rw [hwT]
    show w1.1 1 10 = _
    rw [hn1]
    show w.1 1 10 + 1 = _
    rw [e10, nI_1]
  · show wT.1 8 8 + 1 = _
    rw [t8, e88, nI_1]
  · rw [← t8]
    simp only [pg8, List.mem_cons, List.not_mem_nil, or_false] at hj
    rcases hj with rfl | rfl | rfl | rfl | rfl | rfl <;> first | rfl | exact absurd rfl z
  · show wT.1 3 7 = 0
    rw [hwT]
    show w1.1 3 7 = 0
    rw [ho.2 3 (by decide)]
    rfl
  · rfl
  · show wT.1 3 5 = 0
    rw [hwT]
    show w1.1 3 5 = 0
    rw [ho.2 3 (by decide)]
    rfl
  · show wT.1 3 6 = 0
    rw [hwT]
    show w1.1 3 6 = 0
    rw [ho.2 3 (by decide)]
    rfl
  · show wT.1 4 6 = 0
    rw [hwT]
    show w1.1 4 6 = 0
    rw [ho.2 4 (by decide)]
    rfl
  · simp only [List.mem_cons, List.not_mem_nil, or_false] at hq
    rcases hq with rfl | rfl | rfl | rfl | rfl | rfl | rfl | rfl | rfl | rfl | rfl | rfl | rfl <;> exact m13 _ (by decide) (by decide)
  · show wT.1 8 0 = _
    rw [t8]
  · show wT.1 8 44 = _
    rw [t8]
