/-! FLOWS are alike -/
theorem i_ng {i : Nat} (h : i < 2 ^ 31) (k : Int32) (hk : k < 0) : ¬ nI i = k := by
  intro e
  exact nI_pos h (by rw [e]; exact hk)
theorem nI_inj {a b : Nat} (ha : a < 2 ^ 31) (hb : b < 2 ^ 31) (h : nI a = nI b) : a = b := (nI_eq ha hb).mp h
theorem fl_none : ∀ f, f < 13 → (1 : Int32) <<< (nI f &&& 31) = if nI f = 0 then 1 ||| (if (-5 : Int32) = -5 then 0 else -5) else if (-5 : Int32) = -5 then mbit (nI f) else -5 := by decide +kernel
theorem or1_m1 : ∀ a, a < 128 → ∀ b, b < 64 → ¬ (nI (64 * a + b) ||| 1) = -1 := by decide +kernel
theorem or1_ne {b : Nat} (h : b < 8192) : ¬ (nI b ||| 1) = -1 := by
  have := or1_m1 (b / 64) (by omega) (b % 64) (by omega)
  rw [Nat.div_add_mod] at this
  exact this
theorem mbit_one {f : Nat} (h : f < 2 ^ 31) : mbit (nI f) = (1 : Int32) <<< (nI f &&& 31) := by
  unfold mbit
  rw [if_neg (i_ng h (-5) (by decide))]
theorem i32_or_comm (a b : Int32) : a ||| b = b ||| a := b_ext fun i _ => by rw [b_or, b_or, Bool.or_comm]
theorem i32_or_self (a : Int32) : a ||| a = a := b_ext fun i _ => by rw [b_or, Bool.or_self]
theorem i32_or0 (a : Int32) : a ||| 0 = a := b_ext fun i _ => by rw [b_or, b_0, Bool.or_false]
theorem i32_0or (a : Int32) : 0 ||| a = a := b_ext fun i _ => by rw [b_or, b_0, Bool.false_or]
theorem i32_or_same (a b : Int32) : (a ||| b) ||| b = a ||| b := b_ext fun i _ => by rw [b_or, b_or, Bool.or_assoc, Bool.or_self]
theorem iP_tell {w : qq_w} {N Pn E n : Nat} (H : iPrg w N Pn E) (hn : n < N) : w.1 42 n = cX w n 0 ∧ w.1 43 n = cX w n 1 ∧ w.1 44 n = cX w n 2 ∧ w.1 45 n = cX w n 3 ∧ w.1 46 n = cX w n 4 ∧ w.1 47 n = cX w n 5 ∧ w.1 48 n = cX w n 6 ∧ (cX w n 1 = 9 → w.1 49 n = cX w n 7) ∧ w.1 50 n = cX w n 8 ∧ (cX w n 1 = 10 → w.1 49 n = cX w n 9) := by
  have h := (H.2.1 n hn).1
  have h1 : w.1 43 n = cX w n 1 := h 1 (by decide)
  refine ⟨h 0 (by decide), h1, h 2 (by decide), h 3 (by decide), h 4 (by decide), h 5 (by decide), h 6 (by decide), fun e => ?_, h 8 (by decide), fun e => ?_⟩
  · have h7 : (if w.1 43 n = 9 then w.1 49 n else -5) = cX w n 7 := h 7 (by decide)
    rw [if_pos (h1.trans e)] at h7
    exact h7
  · have h9 : (if w.1 43 n = 10 then w.1 49 n else -5) = cX w n 9 := h 9 (by decide)
    rw [if_pos (h1.trans e)] at h9
    exact h9
theorem iP_cli {w : qq_w} {N Pn E : Nat} (H : iPrg w N Pn E) : w.1 8 23 = w.1 2 2 ∧ (w.1 2 2 = 0 ∨ w.1 2 2 = 1 ∨ w.1 2 2 = 2) := by
  obtain ⟨c, hc, e1, e2⟩ := H.2.2.2.2.2.2.1
  refine ⟨e2.trans e1.symm, ?_⟩
  rw [e1]
  rcases (show c = 0 ∨ c = 1 ∨ c = 2 by omega) with rfl | rfl | rfl
  · exact Or.inl rfl
  · exact Or.inr (Or.inl rfl)
  · exact Or.inr (Or.inr rfl)
theorem iP_kind {w : qq_w} {N Pn E n : Nat} (H : iPrg w N Pn E) (hn : n < N) : ∃ p k, p < Pn ∧ k < 11 ∧ cX w n 0 = nI p ∧ cX w n 1 = nI k ∧ iKind w N Pn n p k := (H.2.1 n hn).2
theorem iVar_lt {w : qq_w} {N p : Nat} {v : Int32} (hp : iProc w N p) (h : iVar w p v) : ∃ x, 1 ≤ x ∧ x < 13 ∧ v = nI x := by
  obtain ⟨x, h1, h2, h3⟩ := h
  obtain ⟨a, b, l, ha, -, -, -, e9, -⟩ := hp
  rw [e9, qn_nI (by omega)] at h2
  exact ⟨x, h1, by omega, h3⟩
/-- a statement's flows -/
theorem st_abs {bf bx : Int32} (FX FY FZ YX P45 P5 S : Prop) [Decidable FX] [Decidable FY] [Decidable FZ] [Decidable YX] [Decidable P45] [Decidable P5] [Decidable S] (h1 : FX → bf = bx) (h2 : ¬ P45 → ¬ FY) (h3 : ¬ P5 → ¬ FZ) (h4 : P5 → P45) (h5 : YX → (FY ↔ FX)) (h6 : P45 → ¬ S) :
    (if FX then (0 : Int32) else bf) ||| (if (FY ∨ FZ) ∨ S then bx else 0) = ((if P45 ∧ YX then bf else (if FX then (0 : Int32) else bf) ||| (if P45 ∧ FY then bx else 0)) ||| (if P5 ∧ FZ then bx else 0)) ||| (if S then bx else 0) := by
  by_cases q1 : P45
  · have q2 := h6 q1
    by_cases q3 : FX
    · have q4 := h1 q3
      subst q4
      by_cases q5 : FZ
      · have q6 : P5 := Classical.byContradiction fun z => h3 z q5
        by_cases q7 : YX <;> by_cases q8 : FY <;> simp [q1, q2, q3, q5, q6, q7, q8, i32_or0, i32_0or, i32_or_self]
      · by_cases q7 : YX
        · have q8 := (h5 q7).mpr q3
          simp [q1, q2, q3, q5, q7, q8, i32_or0, i32_0or, i32_or_self]
        · by_cases q8 : FY <;> simp [q1, q2, q3, q5, q7, q8, i32_or0, i32_0or, i32_or_self]
    · by_cases q5 : FZ
      · have q6 : P5 := Classical.byContradiction fun z => h3 z q5
        by_cases q7 : YX
        · have q8 : ¬ FY := fun z => q3 ((h5 q7).mp z)
          simp [q1, q2, q3, q5, q6, q7, q8, i32_or0, i32_0or, i32_or_self]
        · by_cases q8 : FY <;> simp [q1, q2, q3, q5, q6, q7, q8, i32_or0, i32_0or, i32_or_self, i32_or_same]
      · by_cases q7 : YX
        · have q8 : ¬ FY := fun z => q3 ((h5 q7).mp z)
          simp [q1, q2, q3, q5, q7, q8, i32_or0, i32_0or, i32_or_self]
        · by_cases q8 : FY <;> simp [q1, q2, q3, q5, q7, q8, i32_or0, i32_0or, i32_or_self]
  · have q8 := h2 q1
    have q6 : ¬ P5 := fun z => q1 (h4 z)
    have q5 := h3 q6
    by_cases q2 : S <;> simp [q1, q2, q5, q6, q8, i32_or0, i32_0or, i32_or_self]
theorem st_eq {w : qq_w} {N Pn E n f : Nat} (H : iPrg w N Pn E) (hn : n < N) (hf : f < 13) : cStmt w n (nI f) = mStr w n (nI f) := by
  obtain ⟨-, t1, t2, t3, t4, -⟩ := iP_tell H hn
  obtain ⟨e23, -⟩ := iP_cli H
  obtain ⟨p, k, hp, hk, -, ek, -, ⟨hx, -⟩, ⟨hy, hy'⟩, ⟨hz, hz'⟩, -⟩ := iP_kind H hn
  have hpr := H.2.2.1 p hp
  have eb := mbit_one (f := f) (by omega)
  unfold cStmt mStr
  rw [t1, t2, t3, t4, e23, eb, ek, qn_nI (by omega)]
  have c3 : (3 ≤ nI k ∧ nI k ≤ 7) ↔ (3 ≤ k ∧ k ≤ 7) := by
    rw [show (3 : Int32) = nI 3 from rfl, show (7 : Int32) = nI 7 from rfl, nI_leI (by omega) (by omega), nI_leI (by omega) (by omega)]
  have c4 : nI k = 4 ↔ k = 4 := by rw [show (4 : Int32) = nI 4 from rfl, nI_eq (by omega) (by omega)]
  have c5 : nI k = 5 ↔ k = 5 := by rw [show (5 : Int32) = nI 5 from rfl, nI_eq (by omega) (by omega)]
  have c6 : nI k = 6 ↔ k = 6 := by rw [show (6 : Int32) = nI 6 from rfl, nI_eq (by omega) (by omega)]
  by_cases h37 : 3 ≤ k ∧ k ≤ 7
  · rw [if_pos h37, if_pos (c3.mpr h37)]
    obtain ⟨X, hX1, hX2, eX⟩ := iVar_lt hpr (hx ⟨h37.1, by omega⟩)
    rw [eX, mbit_one (f := X) (by omega)]
    refine st_abs _ _ _ _ _ _ _ (fun z => by rw [z]) (fun z e => ?_) (fun z e => ?_) Or.inr (fun z => by rw [z]) (fun z e => ?_)
    · rw [hy' (fun y => z (y.imp c4.mpr c5.mpr))] at e
      exact i_ng (by omega) (-5) (by decide) e
    · rw [hz' (fun y => z (c5.mpr y))] at e
      exact i_ng (by omega) (-5) (by decide) e
    · have := c6.mp e.1
      rcases z with z | z
      · have := c4.mp z
        omega
      · have := c5.mp z
        omega
  · rw [if_neg h37, if_neg (fun z => h37 (c3.mp z))]
