/-! THE CALLS: node -/
theorem gen_w {T : qq_t} {A : List Value} {P : Option Value → qq_w → Prop} {w : qq_w} (k : ∀ v, v = w → T A v P) : T A w P := k w rfl
def rowN (o k X Y Z : Int32) (j : Nat) : Int32 := if j = 0 then o else if j = 1 then k else if j = 2 then X else if j = 3 then Y else if j = 4 then Z else -5
theorem prg_node {w w2 : qq_w} {N Pn E p k : Nat} {X Y Z : Int32} (H : iPrg w N Pn E) (hN : N < 64) (hp : p < Pn) (hk2 : 2 ≤ k) (hk8 : k ≤ 8) (hX : (3 ≤ k → iVar w p X) ∧ (k = 2 → X = -5)) (hY : (k = 4 ∨ k = 5 → iVar w p Y) ∧ (¬ (k = 4 ∨ k = 5) → Y = -5)) (hZ : (k = 5 → iVar w p Z) ∧ (¬ k = 5 → Z = -5))
    (e13 : ∀ i j, j < 10 → w2.1 13 (10 * i + j) = if i = N then rowN (nI p) (nI k) X Y Z j else w.1 13 (10 * i + j)) (e42 : ∀ i, w2.1 42 i = if i = N then nI p else w.1 42 i) (e43 : ∀ i, w2.1 43 i = if i = N then nI k else w.1 43 i) (e44 : ∀ i, w2.1 44 i = if i = N then X else w.1 44 i) (e45 : ∀ i, w2.1 45 i = if i = N then Y else w.1 45 i) (e46 : ∀ i, w2.1 46 i = if i = N then Z else w.1 46 i) (e47 : ∀ i, w2.1 47 i = if i = N then -5 else w.1 47 i) (e48 : ∀ i, w2.1 48 i = if i = N then -5 else w.1 48 i) (e49 : ∀ i, w2.1 49 i = if i = N then -5 else w.1 49 i) (e50 : ∀ i, w2.1 50 i = if i = N then -5 else w.1 50 i)
    (hq : ∀ q, q ∈ pgI → q ∉ [1, 13, 42, 43, 44, 45, 46, 47, 48, 49, 50] → w2.1 q = w.1 q) (h17 : w2.2 17 = w.2 17) (f1 : ∀ j, j ∈ [9, 11, 12] → w2.1 1 j = w.1 1 j) (f10 : w2.1 1 10 = nI (N + 1)) (f88 : w2.1 8 8 = nI (N + 1)) (h8 : ∀ j, j ∈ pg8 → j ≠ 8 → w2.1 8 j = w.1 8 j) : iPrg w2 (N + 1) Pn E := by
  obtain ⟨hN', hP', hE, e10, e88, e9, e82, e11, e820, e12⟩ := id H.1
  have hx : extP w w2 N Pn := by
    refine ⟨fun i j hi hj => ?_, fun q hq' i hi => ?_, fun q hq' p' hp' => ?_, fun q hq' i hi => ?_⟩
    · rw [e13 i j hj, if_neg (by omega)]
    · simp only [List.mem_cons, List.not_mem_nil, or_false] at hq'
      rcases hq' with rfl | rfl | rfl | rfl | rfl | rfl | rfl | rfl | rfl
      · rw [e42, if_neg (by omega)]
      · rw [e43, if_neg (by omega)]
      · rw [e44, if_neg (by omega)]
      · rw [e45, if_neg (by omega)]
      · rw [e46, if_neg (by omega)]
      · rw [e47, if_neg (by omega)]
      · rw [e48, if_neg (by omega)]
      · rw [e49, if_neg (by omega)]
      · rw [e50, if_neg (by omega)]
    · rw [hq q (by revert hq'; revert q; decide) (by revert hq'; revert q; decide)]
    · rw [hq q (by revert hq'; revert q; decide) (by revert hq'; revert q; decide)]
  have hq2 : ∀ q, q ∈ [2, 15, 16, 18, 52, 53, 54] → w2.1 q = w.1 q := fun q hq' => hq q (by revert hq'; revert q; decide) (by revert hq'; revert q; decide)
  refine ext_prg H hx (by omega) (Nat.le_refl _) (by omega) hP' hq2 h17 f10 f88 (by rw [f1 9 (by decide)]; exact e9) (by rw [h8 2 (by decide) (by decide)]; exact e82) (f1 11 (by decide)) (h8 20 (by decide) (by decide)) (by rw [h8 9 (by decide) (by decide), f1 12 (by decide)]; exact e12) (h8 23 (by decide) (by decide)) (h8 25 (by decide) (by decide)) (fun i hi1 hi2 => ?_) (fun p' h1 h2 => by omega)
  obtain rfl : i = N := by omega
  have c : ∀ j, j < 10 → cX w2 i j = rowN (nI p) (nI k) X Y Z j := fun j hj => by
    have := e13 i j hj
    rw [if_pos rfl] at this
    exact this
  have v := fun v => ext_var (v := v) hx hp
  have nk : ∀ j, j < 11 → nI k = nI j → k = j := fun j hj z => nI_inj (by omega) (by omega) z
  refine ⟨fun j hj => ?_, p, k, hp, by omega, c 0 (by decide), c 1 (by decide), ⟨fun z => by omega, fun z => by omega⟩, ⟨fun z => ?_, fun z => ?_⟩, ⟨fun z => ?_, fun z => ?_⟩, ⟨fun z => ?_, fun z => ?_⟩, ⟨fun z => by omega, fun _ => ⟨c 5 (by decide), c 6 (by decide), c 7 (by decide), c 8 (by decide)⟩⟩, ⟨fun z => by omega, fun _ => c 9 (by decide)⟩⟩
  · rw [c j hj]
    have g43 : w2.1 43 i = nI k := by rw [e43, if_pos rfl]
    have n9 : ¬ nI k = 9 := fun z => by
      have := nk 9 (by decide) z
      omega
    have n10 : ¬ nI k = 10 := fun z => by
      have := nk 10 (by decide) z
      omega
    rcases (show j = 0 ∨ j = 1 ∨ j = 2 ∨ j = 3 ∨ j = 4 ∨ j = 5 ∨ j = 6 ∨ j = 7 ∨ j = 8 ∨ j = 9 by omega) with rfl | rfl | rfl | rfl | rfl | rfl | rfl | rfl | rfl | rfl
    · show w2.1 42 i = _
      rw [e42, if_pos rfl]
      rfl
    · show w2.1 43 i = _
      rw [g43]
      rfl
    · show w2.1 44 i = _
      rw [e44, if_pos rfl]
      rfl
    · show w2.1 45 i = _
      rw [e45, if_pos rfl]
      rfl
    · show w2.1 46 i = _
      rw [e46, if_pos rfl]
      rfl
    · show w2.1 47 i = _
      rw [e47, if_pos rfl]
      rfl
    · show w2.1 48 i = _
      rw [e48, if_pos rfl]
      rfl
    · show (if w2.1 43 i = 9 then w2.1 49 i else -5) = _
      rw [g43, if_neg n9]
      rfl
    · show w2.1 50 i = _
      rw [e50, if_pos rfl]
      rfl
    · show (if w2.1 43 i = 10 then w2.1 49 i else -5) = _
      rw [g43, if_neg n10]
      rfl
  · rw [c 2 (by decide), v]
    exact hX.1 z.1
  · rw [c 2 (by decide)]
    exact hX.2 (by omega)
  · rw [c 3 (by decide), v]
    exact hY.1 z
  · rw [c 3 (by decide)]
    exact hY.2 z
  · rw [c 4 (by decide), v]
    exact hZ.1 z
  · rw [c 4 (by decide)]
    exact hZ.2 z
theorem kd_c {b : Int32} : (∃ j, 2 ≤ j ∧ j ≤ 8 ∧ b = nI j) ∨ (b < 2 ∧ ¬ (2 ≤ b ∧ b ≤ 8)) ∨ (¬ b < 2 ∧ 8 < b ∧ ¬ (2 ≤ b ∧ b ≤ 8)) := by
  have e2 : (2 : Int32).toInt = 2 := by decide
  have e8 : (8 : Int32).toInt = 8 := by decide
  by_cases h1 : b < 2
  · refine Or.inr (Or.inl ⟨h1, fun z => ?_⟩)
    have z1 := z.1
    rw [i_le] at z1
    rw [i_lt] at h1
    omega
  by_cases h2 : 8 < b
  · refine Or.inr (Or.inr ⟨h1, h2, fun z => ?_⟩)
    have z1 := z.2
    rw [i_le] at z1
    rw [i_lt] at h2
    omega
  rw [i_lt, e2] at h1
  rw [i_lt, e8] at h2
  refine Or.inl ⟨b.toInt.toNat, by omega, by omega, ?_⟩
  apply Int32.toInt_inj.mp
  rw [nI_toInt (by omega)]
  omega
theorem row_at {f : Nat → Int32} {o k X Y Z q : Int32} {N i j : Nat} (hq : qn q = N) (hj : j < 10) : (if 10 * i + j = 10 * N + 4 then Z else if 10 * i + j = 10 * N + 3 then Y else if 10 * i + j = 10 * N + 2 then X else if (10 * i + j) / 10 = qn q then (if (10 * i + j) % 10 = 0 then o else if (10 * i + j) % 10 = 1 then k else -5) else f (10 * i + j)) = if i = N then rowN o k X Y Z j else f (10 * i + j) := by
  rw [hq, show (10 * i + j) / 10 = i by omega, show (10 * i + j) % 10 = j by omega]
  by_cases z : i = N
  · subst z
    rw [if_pos rfl, if_pos rfl]
    unfold rowN
    rcases (show j = 0 ∨ j = 1 ∨ j = 2 ∨ j = 3 ∨ j = 4 ∨ 5 ≤ j by omega) with rfl | rfl | rfl | rfl | rfl | hj5
    · simp
    · simp
    · simp
    · simp
    · simp
    · rw [if_neg (by omega), if_neg (by omega), if_neg (by omega), if_neg (by omega), if_neg (by omega), if_neg (by omega), if_neg (by omega), if_neg (by omega), if_neg (by omega), if_neg (by omega)]
  · rw [if_neg (by omega), if_neg (by omega), if_neg (by omega), if_neg z, if_neg z]
set_option maxHeartbeats 16000000 in
theorem nd_2 {w : qq_w} {N Pn E n : Nat} {a x y z : Int32} (h : Inv w) (H : iPrg w N Pn E) (hF : iFnd w) (hT : iTrk w) (hS : iSol w N Pn) (hn : n < Pn) (ea : a = nI n) (k1 : ¬ a < 0) (k2 : ¬ w.1 1 9 ≤ a) (k3 : 0 ≤ a ∧ a ≤ w.1 8 2 - 1) (hv : vp_in a 8) (hr1 : ¬ 64 < w.1 1 10 + 1) (hN64 : N < 64)  : T_X7_node [.ref 0, .int a, .int (nI 2), .int x, .int y, .int z] w (fun v w1 => ∃ X : Int32, v = some (.int X) ∧ T_X8_node [.ref 8, .int a, .int (nI 2), .int x, .int y, .int z] w1 (fun v' w2 => v' = some (.int X) ∧ Inv w2)) := by
  obtain ⟨hN, hP, hE, e10, e88, -⟩ := H.1
  have q10 : qn (w.1 1 10) = N := (iP_P H).2.2.1
  have v10 : vp_in (w.1 1 10) 64 := i_in 64 e10 hN64 (by decide)
  have v88 : vp_in (w.1 8 8) 64 := i_in 64 e88 hN64 (by decide)
  have n88 : ¬ w.1 8 8 = 64 := fun z => by
    rw [e88] at z
    have := nI_inj (b := 64) (by omega) (by decide) z
    omega
  have f88 : w.1 8 8 + 1 - 1 = nI N := by rw [e88, nI_1, nI_p1]
  have w88 : vp_in (w.1 8 8 + 1 - 1) 64 := i_in 64 f88 hN64 (by decide)
  have c88 : (w.1 8 8).toNatClampNeg = N := i_c e88 (by omega)
  have d88 : (w.1 8 8 + 1 - 1).toNatClampNeg = N := i_c f88 (by omega)
  have j2 := nI_ml e10 (x := 2) (i := 2) rfl (nI_lit 10)
  have j3 := nI_ml e10 (x := 3) (i := 3) rfl (nI_lit 10)
  have j4 := nI_ml e10 (x := 4) (i := 4) rfl (nI_lit 10)
  have i2 : (w.1 1 10 * 10 + 2).toNatClampNeg = 10 * N + 2 := i_c j2 (by omega)
  have i3 : (w.1 1 10 * 10 + 3).toNatClampNeg = 10 * N + 3 := i_c j3 (by omega)
  have i4 : (w.1 1 10 * 10 + 4).toNatClampNeg = 10 * N + 4 := i_c j4 (by omega)
  have vi2 : vp_in (w.1 1 10 * 10 + 2) 640 := i_in 640 j2 (by omega) (by decide)
  have vi3 : vp_in (w.1 1 10 * 10 + 3) 640 := i_in 640 j3 (by omega) (by decide)
  have vi4 : vp_in (w.1 1 10 * 10 + 4) 640 := i_in 640 j4 (by omega) (by decide)
  have hvk : vp_in (nI 2) 11 := i_in 11 rfl (by decide) (by decide)
  have hu : ¬ qq_under (qn (nI 2)) 4 := by
    unfold qq_under
    decide
  clear j2 j3 j4
  conv => whnf
  (repeat ((first | refine br_t (by decide) ?_ | refine br_f (by decide) ?_ | refine br_nt (by decide) ?_ | refine br_nf (by decide) ?_ | refine br_t (by with_reducible assumption) ?_ | refine br_f (by with_reducible assumption) ?_ | refine br_nt (by with_reducible assumption) ?_ | refine br_nf (by with_reducible assumption) ?_ | refine And.intro (by with_reducible assumption) ?_ | refine ⟨Or.inl rfl, ?_⟩ | refine br_t (by assumption) ?_ | refine br_f (by assumption) ?_ | refine br_nt (by assumption) ?_ | refine br_nf (by assumption) ?_ | refine And.intro (by assumption) ?_); (conv => whnf)))
  intro w1 hw1
  obtain ⟨ho, hn1, h13⟩ := hw1
  conv => whnf
  (repeat ((first | refine br_t (by decide) ?_ | refine br_f (by decide) ?_ | refine br_nt (by decide) ?_ | refine br_nf (by decide) ?_ | refine br_t (by with_reducible assumption) ?_ | refine br_f (by with_reducible assumption) ?_ | refine br_nt (by with_reducible assumption) ?_ | refine br_nf (by with_reducible assumption) ?_ | refine And.intro (by with_reducible assumption) ?_ | refine ⟨Or.inl rfl, ?_⟩ | refine br_t (by assumption) ?_ | refine br_f (by assumption) ?_ | refine br_nt (by assumption) ?_ | refine br_nf (by assumption) ?_ | refine And.intro (by assumption) ?_); (conv => whnf)))
  refine ⟨_, rfl, gen_w (T := T_X8_node) (fun wT hwT => ?_)⟩
  have t8 : wT.1 8 = w.1 8 := by
    rw [hwT]
    exact ho.2 8 (by decide)
  have t37 : wT.1 37 = w.1 37 := by
    rw [hwT]
    exact ho.2 37 (by decide)
  have k3' : 0 ≤ a ∧ a ≤ wT.1 8 2 - 1 := by
    rw [t8]
    exact k3
  have u88 : ¬ wT.1 8 8 = 64 := by
    rw [t8]
    exact n88
  have v88' : vp_in (wT.1 8 8) 64 := by
    rw [t8]
    exact v88
  have w88' : vp_in (wT.1 8 8 + 1 - 1) 64 := by
    rw [t8]
    exact w88
  conv => whnf
  (repeat ((first | refine br_t (by decide) ?_ | refine br_f (by decide) ?_ | refine br_nt (by decide) ?_ | refine br_nf (by decide) ?_ | refine ⟨_, rfl, ?_⟩ | refine br_t (by with_reducible assumption) ?_ | refine br_f (by with_reducible assumption) ?_ | refine br_nt (by with_reducible assumption) ?_ | refine br_nf (by with_reducible assumption) ?_ | refine ⟨by with_reducible assumption, ?_⟩ | refine ⟨Or.inl rfl, ?_⟩ | refine br_t (by assumption) ?_ | refine br_f (by assumption) ?_ | refine br_nt (by assumption) ?_ | refine br_nf (by assumption) ?_ | refine ⟨by assumption, ?_⟩); (conv => whnf)))
  have kN : (wT.1 8 8).toNatClampNeg = N := by
    rw [t8]
    exact c88
  have kN' : (wT.1 8 8 + 1 - 1).toNatClampNeg = N := by
    rw [t8]
    exact d88
  have m13 : ∀ q, q ∉ [1, 13] → q ∉ [3, 4] → wT.1 q = w.1 q := fun q z1 z2 => by
    have z13 : q ≠ 13 := fun z => z1 (by simp [z])
    have z3 : q ≠ 3 := fun z => z2 (by simp [z])
    have z4 : q ≠ 4 := fun z => z2 (by simp [z])
    rw [hwT]
    simp only [qq_ui, va_up, z13, if_false]
    rw [ho.2 q z1]
    simp only [qq_ui, va_up, z3, z4, if_false]
  have hr13 : ∀ i j, j < 10 → wT.1 13 (10 * i + j) = if i = N then rowN a (nI 2) (-5) (-5) (-5) j else w.1 13 (10 * i + j) := by
    intro i j hj
    rw [hwT]
    show upd (upd (upd (w1.1 13) (w.1 1 10 * 10 + 2).toNatClampNeg (-5)) (w.1 1 10 * 10 + 3).toNatClampNeg (-5)) (w.1 1 10 * 10 + 4).toNatClampNeg (-5) (10 * i + j) = _
    rw [i2, i3, i4, upd_at, upd_at, upd_at, h13 (10 * i + j)]
    exact row_at q10 hj
  refine ⟨?_, Inv_end2 (w := w) (N := N + 1) (Pn := Pn) (E := E) hF hT hS.1 (prg_node (p := n) (k := 2) (X := (-5)) (Y := (-5)) (Z := (-5)) H (by omega) hn (by omega) (by omega) ⟨fun z => by omega, fun _ => rfl⟩ ⟨fun z => by omega, fun _ => rfl⟩ ⟨fun z => by omega, fun _ => rfl⟩ (by rw [← ea]; exact hr13) (fun i => ?_) (fun i => ?_) (fun i => ?_) (fun i => ?_) (fun i => ?_) (fun i => ?_) (fun i => ?_) (fun i => ?_) (fun i => ?_) (fun q hq z => ?_) ?_ (fun j hj => ?_) ?_ ?_ (fun j hj z => ?_)) ?_ ?_ ?_ ?_ ?_ (fun q hq => ?_) ?_ ?_⟩
  · show some (Value.int (wT.1 8 8 + 1 - 1)) = some (Value.int (w.1 1 10))
    rw [t8, e88, e10, nI_1, nI_p1]
  · show upd (wT.1 42) (wT.1 8 8).toNatClampNeg a i = _
    rw [upd_at, kN, m13 42 (by decide) (by decide), ← ea]
  · show upd (wT.1 43) (wT.1 8 8).toNatClampNeg (nI 2) i = _
    rw [upd_at, kN, m13 43 (by decide) (by decide)]
  · show upd (upd (wT.1 44) (wT.1 8 8).toNatClampNeg (-5)) (wT.1 8 8 + 1 - 1).toNatClampNeg (-5) i = _
    rw [upd_at, upd_at, kN, kN', m13 44 (by decide) (by decide)]
    split <;> rfl
  · show upd (upd (wT.1 45) (wT.1 8 8).toNatClampNeg (-5)) (wT.1 8 8 + 1 - 1).toNatClampNeg (-5) i = _
    rw [upd_at, upd_at, kN, kN', m13 45 (by decide) (by decide)]
    split <;> rfl
  · show upd (upd (wT.1 46) (wT.1 8 8).toNatClampNeg (-5)) (wT.1 8 8 + 1 - 1).toNatClampNeg (-5) i = _
    rw [upd_at, upd_at, kN, kN', m13 46 (by decide) (by decide)]
    split <;> rfl
  · show upd (wT.1 47) (wT.1 8 8).toNatClampNeg (-5) i = _
    rw [upd_at, kN, m13 47 (by decide) (by decide)]
  · show upd (wT.1 48) (wT.1 8 8).toNatClampNeg (-5) i = _
    rw [upd_at, kN, m13 48 (by decide) (by decide)]
  · show upd (wT.1 49) (wT.1 8 8).toNatClampNeg (-5) i = _
    rw [upd_at, kN, m13 49 (by decide) (by decide)]
  · show upd (wT.1 50) (wT.1 8 8).toNatClampNeg (-5) i = _
    rw [upd_at, kN, m13 50 (by decide) (by decide)]
  · simp only [pgI, List.mem_cons, List.not_mem_nil, or_false] at hq
    rcases hq with rfl | rfl | rfl | rfl | rfl | rfl | rfl | rfl | rfl | rfl | rfl | rfl | rfl | rfl | rfl | rfl | rfl | rfl | rfl | rfl | rfl | rfl | rfl | rfl | rfl | rfl | rfl | rfl | rfl <;> first | exact absurd (by decide) z | exact m13 _ (by decide) (by decide)
  · show wT.2 17 = _
    rw [hwT]
    exact congrFun ho.1 17
  · show wT.1 1 j = _
    rw [hwT]
    show w1.1 1 j = _
    rw [hn1]
    show upd (w.1 1) 10 _ j = _
    rw [upd_at, if_neg (fun z => by subst z; revert hj; decide)]
  · show wT.1 1 10 = _
    rw [hwT]
    show w1.1 1 10 = _
    rw [hn1]
    show w.1 1 10 + 1 = _
    rw [e10, nI_1]
  · show wT.1 8 8 + 1 = _
    rw [t8, e88, nI_1]
  · rw [← t8]
    simp only [pg8, List.mem_cons, List.not_mem_nil, or_false] at hj
    rcases hj with rfl | rfl | rfl | rfl | rfl | rfl <;> first | rfl | exact absurd rfl z
  · show wT.1 3 7 = 0
    rw [hwT]
    show w1.1 3 7 = 0
    rw [ho.2 3 (by decide)]
    rfl
  · rfl
  · show wT.1 3 5 = 0
    rw [hwT]
    show w1.1 3 5 = 0
    rw [ho.2 3 (by decide)]
    rfl
  · show wT.1 3 6 = 0
    rw [hwT]
    show w1.1 3 6 = 0
    rw [ho.2 3 (by decide)]
    rfl
  · show wT.1 4 6 = 0
    rw [hwT]
    show w1.1 4 6 = 0
    rw [ho.2 4 (by decide)]
    rfl
  · simp only [List.mem_cons, List.not_mem_nil, or_false] at hq
    rcases hq with rfl | rfl | rfl | rfl | rfl | rfl | rfl | rfl | rfl | rfl | rfl | rfl | rfl <;> exact m13 _ (by decide) (by decide)
  · show wT.1 8 0 = _
    rw [t8]
  · show wT.1 8 44 = _
    rw [t8]
